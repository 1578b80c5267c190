/-! Tables of the program, by a program: classes, methods, what each pool number names. -/
def aj_nms : List String := ["ReelOfBoxes", "ReelOfBoxesModel", "ReelOfBoxes$ByteRow", "ReelOfBoxes$Fault", "ReelOfBoxes$Finder", "ReelOfBoxes$Reader", "ReelOfBoxes$Reel", "ReelOfBoxes$Table", "ReelOfBoxes$Track", "ReelOfBoxes$TrackBoxes", "ReelOfBoxes$Writer", "ReelOfBoxesLaw"]
def aj_nm (n : Nat) : String := aj_nms.getD n ""
def aj_host : String := "ReelOfBoxes"
def aj_t0 : u_T := fun k => match k with
  | 0 => ("ReelOfBoxes", "reel", "LReelOfBoxes$Reel;", true)
  | 1 => ("ReelOfBoxes", "file", "LReelOfBoxes$ByteRow;", true)
  | 2 => ("ReelOfBoxes", "reader", "LReelOfBoxes$Reader;", true)
  | _ => ("ReelOfBoxes", "writer", "LReelOfBoxes$Writer;", true)
def aj_t1 : u_T := fun k => match k with
  | 0 => ("ReelOfBoxesModel", "tracks", "I", false)
  | 1 => ("ReelOfBoxesModel", "counts", "[I", true)
  | 2 => ("ReelOfBoxesModel", "durations", "[I", true)
  | 3 => ("ReelOfBoxesModel", "sizes", "[I", true)
  | 4 => ("ReelOfBoxesModel", "data", "[J", true)
  | 5 => ("ReelOfBoxesModel", "length", "I", false)
  | 6 => ("ReelOfBoxesModel", "file", "[I", true)
  | 7 => ("ReelOfBoxesModel", "faultPlace", "I", false)
  | 8 => ("ReelOfBoxesModel", "level", "I", false)
  | 9 => ("ReelOfBoxesModel", "begins", "[I", true)
  | 10 => ("ReelOfBoxesModel", "ends", "[I", true)
  | 11 => ("ReelOfBoxesModel", "moovs", "I", false)
  | 12 => ("ReelOfBoxesModel", "mdats", "I", false)
  | 13 => ("ReelOfBoxesModel", "mdatFrom", "I", false)
  | 14 => ("ReelOfBoxesModel", "mdatTo", "I", false)
  | 15 => ("ReelOfBoxesModel", "found", "I", false)
  | 16 => ("ReelOfBoxesModel", "stbls", "[I", true)
  | 17 => ("ReelOfBoxesModel", "boxes", "[I", true)
  | 18 => ("ReelOfBoxesModel", "contents", "[I", true)
  | 19 => ("ReelOfBoxesModel", "stops", "[I", true)
  | 20 => ("ReelOfBoxesModel", "wide", "[Z", true)
  | 21 => ("ReelOfBoxesModel", "headType", "I", false)
  | 22 => ("ReelOfBoxesModel", "headContent", "I", false)
  | 23 => ("ReelOfBoxesModel", "headEnd", "I", false)
  | 24 => ("ReelOfBoxesModel", "newCounts", "[I", true)
  | 25 => ("ReelOfBoxesModel", "newDurations", "[I", true)
  | 26 => ("ReelOfBoxesModel", "newSizes", "[I", true)
  | _ => ("ReelOfBoxesModel", "newPlaces", "[J", true)
def aj_t2 : u_T := fun k => match k with
  | 0 => ("ReelOfBoxes$ByteRow", "cells", "[B", true)
  | _ => ("ReelOfBoxes$ByteRow", "count", "I", false)
def aj_t3 : u_T := fun k => match k with
  | 0 => ("ReelOfBoxes$Fault", "kind", "I", false)
  | _ => ("ReelOfBoxes$Fault", "where", "I", false)
def aj_t4 : u_T := fun k => match k with
  | 0 => ("ReelOfBoxes$Finder", "file", "LReelOfBoxes$ByteRow;", true)
  | 1 => ("ReelOfBoxes$Finder", "fault", "LReelOfBoxes$Fault;", true)
  | 2 => ("ReelOfBoxes$Finder", "rows", "[LReelOfBoxes$TrackBoxes;", true)
  | 3 => ("ReelOfBoxes$Finder", "homes", "[I", true)
  | 4 => ("ReelOfBoxes$Finder", "ends", "[I", true)
  | 5 => ("ReelOfBoxes$Finder", "level", "I", false)
  | 6 => ("ReelOfBoxes$Finder", "hasMoov", "Z", false)
  | 7 => ("ReelOfBoxes$Finder", "hasMdat", "Z", false)
  | 8 => ("ReelOfBoxes$Finder", "mdatContent", "I", false)
  | 9 => ("ReelOfBoxes$Finder", "mdatEnd", "I", false)
  | 10 => ("ReelOfBoxes$Finder", "count", "I", false)
  | 11 => ("ReelOfBoxes$Finder", "current", "LReelOfBoxes$TrackBoxes;", false)
  | 12 => ("ReelOfBoxes$Finder", "box", "I", false)
  | 13 => ("ReelOfBoxes$Finder", "type", "I", false)
  | 14 => ("ReelOfBoxes$Finder", "content", "I", false)
  | _ => ("ReelOfBoxes$Finder", "end", "I", false)
def aj_t5 : u_T := fun k => match k with
  | 0 => ("ReelOfBoxes$Reader", "file", "LReelOfBoxes$ByteRow;", true)
  | 1 => ("ReelOfBoxes$Reader", "fault", "LReelOfBoxes$Fault;", true)
  | _ => ("ReelOfBoxes$Reader", "finder", "LReelOfBoxes$Finder;", true)
def aj_t6 : u_T := fun k => match k with
  | 0 => ("ReelOfBoxes$Reel", "rows", "[LReelOfBoxes$Track;", true)
  | _ => ("ReelOfBoxes$Reel", "count", "I", false)
def aj_t7 : u_T := fun k => match k with
  | 0 => ("ReelOfBoxes$Table", "file", "LReelOfBoxes$ByteRow;", true)
  | 1 => ("ReelOfBoxes$Table", "box", "I", false)
  | 2 => ("ReelOfBoxes$Table", "type", "I", false)
  | 3 => ("ReelOfBoxes$Table", "content", "I", false)
  | 4 => ("ReelOfBoxes$Table", "end", "I", false)
  | 5 => ("ReelOfBoxes$Table", "headWidth", "I", false)
  | _ => ("ReelOfBoxes$Table", "entryWidth", "I", false)
def aj_t8 : u_T := fun k => match k with
  | 0 => ("ReelOfBoxes$Track", "durations", "[I", true)
  | 1 => ("ReelOfBoxes$Track", "sizes", "[I", true)
  | 2 => ("ReelOfBoxes$Track", "contents", "[J", true)
  | _ => ("ReelOfBoxes$Track", "count", "I", false)
def aj_t9 : u_T := fun k => match k with
  | 0 => ("ReelOfBoxes$TrackBoxes", "tables", "[LReelOfBoxes$Table;", true)
  | 1 => ("ReelOfBoxes$TrackBoxes", "durations", "[I", true)
  | 2 => ("ReelOfBoxes$TrackBoxes", "sizes", "[I", true)
  | 3 => ("ReelOfBoxes$TrackBoxes", "begins", "[J", true)
  | 4 => ("ReelOfBoxes$TrackBoxes", "samples", "I", false)
  | _ => ("ReelOfBoxes$TrackBoxes", "stbl", "I", false)
def aj_t10 : u_T := fun k => match k with
  | 0 => ("ReelOfBoxes$Writer", "reel", "LReelOfBoxes$Reel;", true)
  | 1 => ("ReelOfBoxes$Writer", "file", "LReelOfBoxes$ByteRow;", true)
  | 2 => ("ReelOfBoxes$Writer", "chunkPlaces", "[I", true)
  | 3 => ("ReelOfBoxes$Writer", "per", "I", false)
  | 4 => ("ReelOfBoxes$Writer", "hasLongPlaces", "Z", false)
  | _ => ("ReelOfBoxes$Writer", "hasWideMdat", "Z", false)
abbrev aj_cl : List vw_C := [("ReelOfBoxes", aj_t0, 4), ("ReelOfBoxesModel", aj_t1, 28), ("ReelOfBoxes$ByteRow", aj_t2, 2), ("ReelOfBoxes$Fault", aj_t3, 2), ("ReelOfBoxes$Finder", aj_t4, 16), ("ReelOfBoxes$Reader", aj_t5, 3), ("ReelOfBoxes$Reel", aj_t6, 2), ("ReelOfBoxes$Table", aj_t7, 7), ("ReelOfBoxes$Track", aj_t8, 4), ("ReelOfBoxes$TrackBoxes", aj_t9, 6), ("ReelOfBoxes$Writer", aj_t10, 6)]
def aj_at : Nat → FieldType
  | 0 => .int
  | 1 => .long
  | 2 => .byte
  | 3 => .boolean
  | 4 => .object "ReelOfBoxes$TrackBoxes"
  | 5 => .object "ReelOfBoxes$Track"
  | _ => .object "ReelOfBoxes$Table"
def aj_nt : Nat := 7
def aj_ao : List String := ["ReelOfBoxes$TrackBoxes", "ReelOfBoxes$Track", "ReelOfBoxes$Table"]
def aj_pas : List (ArrayType × Nat) := [(.int, 0), (.long, 1), (.byte, 2), (.boolean, 3)]
def aj_tcs : List (Nat × Nat) := [(4, 9), (5, 8), (6, 7)]
theorem tc_4 : (4, 9) ∈ aj_tcs := List.mem_of_getElem? (i := 0) rfl
theorem tc_5 : (5, 8) ∈ aj_tcs := List.mem_of_getElem? (i := 1) rfl
theorem tc_6 : (6, 7) ∈ aj_tcs := List.mem_of_getElem? (i := 2) rfl
abbrev c_0 : ByteArray := prog_1_method_1_code
abbrev c_1 : ByteArray := prog_1_method_2_code
abbrev c_2 : ByteArray := prog_1_method_3_code
abbrev c_3 : ByteArray := prog_1_method_4_code
abbrev c_4 : ByteArray := prog_1_method_5_code
abbrev c_5 : ByteArray := prog_1_method_6_code
abbrev c_6 : ByteArray := prog_1_method_7_code
abbrev c_7 : ByteArray := prog_1_method_8_code
abbrev c_8 : ByteArray := prog_1_method_9_code
abbrev c_9 : ByteArray := prog_1_method_10_code
abbrev c_10 : ByteArray := prog_1_method_11_code
abbrev c_11 : ByteArray := prog_1_method_12_code
abbrev c_12 : ByteArray := prog_1_method_13_code
abbrev c_13 : ByteArray := prog_1_method_14_code
abbrev c_14 : ByteArray := prog_1_method_15_code
abbrev c_15 : ByteArray := prog_1_method_16_code
abbrev c_16 : ByteArray := prog_1_method_17_code
abbrev c_17 : ByteArray := prog_1_method_18_code
abbrev c_18 : ByteArray := prog_1_method_19_code
abbrev c_19 : ByteArray := prog_12_method_1_code
abbrev c_20 : ByteArray := prog_12_method_2_code
abbrev c_21 : ByteArray := prog_12_method_3_code
abbrev c_22 : ByteArray := prog_12_method_4_code
abbrev c_23 : ByteArray := prog_12_method_5_code
abbrev c_24 : ByteArray := prog_12_method_6_code
abbrev c_25 : ByteArray := prog_12_method_7_code
abbrev c_26 : ByteArray := prog_12_method_8_code
abbrev c_27 : ByteArray := prog_12_method_9_code
abbrev c_28 : ByteArray := prog_12_method_10_code
abbrev c_29 : ByteArray := prog_12_method_11_code
abbrev c_30 : ByteArray := prog_12_method_12_code
abbrev c_31 : ByteArray := prog_12_method_13_code
abbrev c_32 : ByteArray := prog_12_method_14_code
abbrev c_33 : ByteArray := prog_12_method_15_code
abbrev c_34 : ByteArray := prog_12_method_16_code
abbrev c_35 : ByteArray := prog_12_method_17_code
abbrev c_36 : ByteArray := prog_12_method_18_code
abbrev c_37 : ByteArray := prog_12_method_19_code
abbrev c_38 : ByteArray := prog_12_method_20_code
abbrev c_39 : ByteArray := prog_12_method_21_code
abbrev c_40 : ByteArray := prog_12_method_22_code
abbrev c_41 : ByteArray := prog_12_method_23_code
abbrev c_42 : ByteArray := prog_12_method_24_code
abbrev c_43 : ByteArray := prog_12_method_25_code
abbrev c_44 : ByteArray := prog_12_method_26_code
abbrev c_45 : ByteArray := prog_12_method_27_code
abbrev c_46 : ByteArray := prog_12_method_28_code
abbrev c_47 : ByteArray := prog_12_method_29_code
abbrev c_48 : ByteArray := prog_12_method_30_code
abbrev c_49 : ByteArray := prog_12_method_31_code
abbrev c_50 : ByteArray := prog_12_method_32_code
abbrev c_51 : ByteArray := prog_12_method_33_code
abbrev c_52 : ByteArray := prog_12_method_34_code
abbrev c_53 : ByteArray := prog_12_method_35_code
abbrev c_54 : ByteArray := prog_12_method_36_code
abbrev c_55 : ByteArray := prog_12_method_37_code
abbrev c_56 : ByteArray := prog_12_method_38_code
abbrev c_57 : ByteArray := prog_12_method_39_code
abbrev c_58 : ByteArray := prog_12_method_40_code
abbrev c_59 : ByteArray := prog_12_method_41_code
abbrev c_60 : ByteArray := prog_12_method_42_code
abbrev c_61 : ByteArray := prog_12_method_43_code
abbrev c_62 : ByteArray := prog_12_method_44_code
abbrev c_63 : ByteArray := prog_12_method_45_code
abbrev c_64 : ByteArray := prog_12_method_46_code
abbrev c_65 : ByteArray := prog_12_method_47_code
abbrev c_66 : ByteArray := prog_12_method_48_code
abbrev c_67 : ByteArray := prog_12_method_49_code
abbrev c_68 : ByteArray := prog_12_method_50_code
abbrev c_69 : ByteArray := prog_12_method_51_code
abbrev c_70 : ByteArray := prog_12_method_52_code
abbrev c_71 : ByteArray := prog_12_method_53_code
abbrev c_72 : ByteArray := prog_12_method_54_code
abbrev c_73 : ByteArray := prog_12_method_55_code
abbrev c_74 : ByteArray := prog_12_method_56_code
abbrev c_75 : ByteArray := prog_12_method_57_code
abbrev c_76 : ByteArray := prog_12_method_58_code
abbrev c_77 : ByteArray := prog_12_method_59_code
abbrev c_78 : ByteArray := prog_12_method_60_code
abbrev c_79 : ByteArray := prog_12_method_61_code
abbrev c_80 : ByteArray := prog_2_method_1_code
abbrev c_81 : ByteArray := prog_2_method_2_code
abbrev c_82 : ByteArray := prog_2_method_3_code
abbrev c_83 : ByteArray := prog_2_method_4_code
abbrev c_84 : ByteArray := prog_2_method_5_code
abbrev c_85 : ByteArray := prog_2_method_6_code
abbrev c_86 : ByteArray := prog_2_method_7_code
abbrev c_87 : ByteArray := prog_2_method_8_code
abbrev c_88 : ByteArray := prog_3_method_1_code
abbrev c_89 : ByteArray := prog_3_method_2_code
abbrev c_90 : ByteArray := prog_3_method_3_code
abbrev c_91 : ByteArray := prog_4_method_1_code
abbrev c_92 : ByteArray := prog_4_method_2_code
abbrev c_93 : ByteArray := prog_4_method_3_code
abbrev c_94 : ByteArray := prog_4_method_4_code
abbrev c_95 : ByteArray := prog_4_method_5_code
abbrev c_96 : ByteArray := prog_4_method_6_code
abbrev c_97 : ByteArray := prog_4_method_7_code
abbrev c_98 : ByteArray := prog_4_method_8_code
abbrev c_99 : ByteArray := prog_4_method_9_code
abbrev c_100 : ByteArray := prog_4_method_10_code
abbrev c_101 : ByteArray := prog_4_method_11_code
abbrev c_102 : ByteArray := prog_5_method_1_code
abbrev c_103 : ByteArray := prog_5_method_2_code
abbrev c_104 : ByteArray := prog_5_method_3_code
abbrev c_105 : ByteArray := prog_5_method_4_code
abbrev c_106 : ByteArray := prog_5_method_5_code
abbrev c_107 : ByteArray := prog_5_method_6_code
abbrev c_108 : ByteArray := prog_5_method_7_code
abbrev c_109 : ByteArray := prog_5_method_8_code
abbrev c_110 : ByteArray := prog_6_method_1_code
abbrev c_111 : ByteArray := prog_6_method_2_code
abbrev c_112 : ByteArray := prog_6_method_3_code
abbrev c_113 : ByteArray := prog_6_method_4_code
abbrev c_114 : ByteArray := prog_6_method_5_code
abbrev c_115 : ByteArray := prog_7_method_1_code
abbrev c_116 : ByteArray := prog_7_method_2_code
abbrev c_117 : ByteArray := prog_7_method_3_code
abbrev c_118 : ByteArray := prog_7_method_4_code
abbrev c_119 : ByteArray := prog_7_method_5_code
abbrev c_120 : ByteArray := prog_7_method_6_code
abbrev c_121 : ByteArray := prog_7_method_7_code
abbrev c_122 : ByteArray := prog_7_method_8_code
abbrev c_123 : ByteArray := prog_7_method_9_code
abbrev c_124 : ByteArray := prog_7_method_10_code
abbrev c_125 : ByteArray := prog_7_method_11_code
abbrev c_126 : ByteArray := prog_7_method_12_code
abbrev c_127 : ByteArray := prog_7_method_13_code
abbrev c_128 : ByteArray := prog_7_method_14_code
abbrev c_129 : ByteArray := prog_8_method_1_code
abbrev c_130 : ByteArray := prog_8_method_2_code
abbrev c_131 : ByteArray := prog_8_method_3_code
abbrev c_132 : ByteArray := prog_8_method_4_code
abbrev c_133 : ByteArray := prog_8_method_5_code
abbrev c_134 : ByteArray := prog_8_method_6_code
abbrev c_135 : ByteArray := prog_8_method_7_code
abbrev c_136 : ByteArray := prog_8_method_8_code
abbrev c_137 : ByteArray := prog_8_method_9_code
abbrev c_138 : ByteArray := prog_9_method_1_code
abbrev c_139 : ByteArray := prog_9_method_2_code
abbrev c_140 : ByteArray := prog_9_method_3_code
abbrev c_141 : ByteArray := prog_9_method_4_code
abbrev c_142 : ByteArray := prog_9_method_5_code
abbrev c_143 : ByteArray := prog_9_method_6_code
abbrev c_144 : ByteArray := prog_9_method_7_code
abbrev c_145 : ByteArray := prog_9_method_8_code
abbrev c_146 : ByteArray := prog_9_method_9_code
abbrev c_147 : ByteArray := prog_9_method_10_code
abbrev c_148 : ByteArray := prog_9_method_11_code
abbrev c_149 : ByteArray := prog_9_method_12_code
abbrev c_150 : ByteArray := prog_9_method_13_code
abbrev c_151 : ByteArray := prog_9_method_14_code
abbrev c_152 : ByteArray := prog_9_method_15_code
abbrev c_153 : ByteArray := prog_9_method_16_code
abbrev c_154 : ByteArray := prog_10_method_1_code
abbrev c_155 : ByteArray := prog_10_method_2_code
abbrev c_156 : ByteArray := prog_10_method_3_code
abbrev c_157 : ByteArray := prog_10_method_4_code
abbrev c_158 : ByteArray := prog_10_method_5_code
abbrev c_159 : ByteArray := prog_10_method_6_code
abbrev c_160 : ByteArray := prog_10_method_7_code
abbrev c_161 : ByteArray := prog_10_method_8_code
abbrev c_162 : ByteArray := prog_10_method_9_code
abbrev c_163 : ByteArray := prog_10_method_10_code
abbrev c_164 : ByteArray := prog_10_method_11_code
abbrev c_165 : ByteArray := prog_10_method_12_code
abbrev c_166 : ByteArray := prog_10_method_13_code
abbrev c_167 : ByteArray := prog_10_method_14_code
abbrev c_168 : ByteArray := prog_10_method_15_code
abbrev c_169 : ByteArray := prog_10_method_16_code
abbrev c_170 : ByteArray := prog_10_method_17_code
abbrev c_171 : ByteArray := prog_10_method_18_code
abbrev c_172 : ByteArray := prog_10_method_19_code
abbrev c_173 : ByteArray := prog_10_method_20_code
abbrev c_174 : ByteArray := prog_10_method_21_code
abbrev c_175 : ByteArray := prog_10_method_22_code
abbrev c_176 : ByteArray := prog_10_method_23_code
abbrev c_177 : ByteArray := prog_10_method_24_code
abbrev c_178 : ByteArray := prog_10_method_25_code
abbrev c_179 : ByteArray := prog_10_method_26_code
def aj_ms : List (Nat × MethodName × ByteArray × Nat × Option FieldType) := [
  (0, ⟨"ReelOfBoxes", "<init>", "()V"⟩, c_0, 1, none),
  (0, ⟨"ReelOfBoxes", "track", "()I"⟩, c_1, 1, some .int),
  (0, ⟨"ReelOfBoxes", "sample", "(IIJI)I"⟩, c_2, 7, some .int),
  (0, ⟨"ReelOfBoxes", "clear", "()I"⟩, c_3, 1, some .int),
  (0, ⟨"ReelOfBoxes", "write", "(II)I"⟩, c_4, 3, some .int),
  (0, ⟨"ReelOfBoxes", "read", "()I"⟩, c_5, 1, some .int),
  (0, ⟨"ReelOfBoxes", "place", "()I"⟩, c_6, 1, some .int),
  (0, ⟨"ReelOfBoxes", "tracks", "()I"⟩, c_7, 1, some .int),
  (0, ⟨"ReelOfBoxes", "samples", "(I)I"⟩, c_8, 3, some .int),
  (0, ⟨"ReelOfBoxes", "size", "(II)I"⟩, c_9, 4, some .int),
  (0, ⟨"ReelOfBoxes", "time", "(II)J"⟩, c_10, 4, some .long),
  (0, ⟨"ReelOfBoxes", "bytes", "(II)J"⟩, c_11, 4, some .long),
  (0, ⟨"ReelOfBoxes", "length", "()I"⟩, c_12, 1, some .int),
  (0, ⟨"ReelOfBoxes", "at", "(I)I"⟩, c_13, 2, some .int),
  (0, ⟨"ReelOfBoxes", "poke", "(II)Z"⟩, c_14, 3, some .boolean),
  (0, ⟨"ReelOfBoxes", "append", "(JI)I"⟩, c_15, 4, some .int),
  (0, ⟨"ReelOfBoxes", "cut", "(I)Z"⟩, c_16, 2, some .boolean),
  (0, ⟨"ReelOfBoxes", "isTooMuch", "(J)Z"⟩, c_17, 2, some .boolean),
  (0, ⟨"ReelOfBoxes", "tableOfType", "(I)I"⟩, c_18, 1, some .int),
  (1, ⟨"ReelOfBoxesModel", "<init>", "()V"⟩, c_19, 1, none),
  (1, ⟨"ReelOfBoxesModel", "track", "()I"⟩, c_20, 1, some .int),
  (1, ⟨"ReelOfBoxesModel", "isTrack", "(I)Z"⟩, c_21, 2, some .boolean),
  (1, ⟨"ReelOfBoxesModel", "isSample", "(II)Z"⟩, c_22, 3, some .boolean),
  (1, ⟨"ReelOfBoxesModel", "sample", "(IIJI)I"⟩, c_23, 7, some .int),
  (1, ⟨"ReelOfBoxesModel", "clear", "()I"⟩, c_24, 2, some .int),
  (1, ⟨"ReelOfBoxesModel", "put", "(JI)V"⟩, c_25, 5, none),
  (1, ⟨"ReelOfBoxesModel", "head", "(II)V"⟩, c_26, 3, none),
  (1, ⟨"ReelOfBoxesModel", "chunksOf", "(II)I"⟩, c_27, 3, some .int),
  (1, ⟨"ReelOfBoxesModel", "chunkSize", "(III)I"⟩, c_28, 5, some .int),
  (1, ⟨"ReelOfBoxesModel", "rowsOf", "(I)I"⟩, c_29, 4, some .int),
  (1, ⟨"ReelOfBoxesModel", "turnsOf", "(II)I"⟩, c_30, 4, some .int),
  (1, ⟨"ReelOfBoxesModel", "stblSize", "(IIZ)I"⟩, c_31, 4, some .int),
  (1, ⟨"ReelOfBoxesModel", "bytesOf", "(III)I"⟩, c_32, 6, some .int),
  (1, ⟨"ReelOfBoxesModel", "bytesBefore", "(III)I"⟩, c_33, 7, some .int),
  (1, ⟨"ReelOfBoxesModel", "writeTimes", "(I)V"⟩, c_34, 6, none),
  (1, ⟨"ReelOfBoxesModel", "writeTurns", "(II)V"⟩, c_35, 5, none),
  (1, ⟨"ReelOfBoxesModel", "writeSizes", "(I)V"⟩, c_36, 3, none),
  (1, ⟨"ReelOfBoxesModel", "writePlaces", "(IIZI)V"⟩, c_37, 8, none),
  (1, ⟨"ReelOfBoxesModel", "allBytes", "()I"⟩, c_38, 4, some .int),
  (1, ⟨"ReelOfBoxesModel", "writeData", "(I)V"⟩, c_39, 7, none),
  (1, ⟨"ReelOfBoxesModel", "write", "(II)I"⟩, c_40, 10, some .int),
  (1, ⟨"ReelOfBoxesModel", "numberAt", "(II)J"⟩, c_41, 6, some .long),
  (1, ⟨"ReelOfBoxesModel", "readHead", "(II)Z"⟩, c_42, 5, some .boolean),
  (1, ⟨"ReelOfBoxesModel", "tableOf", "(I)I"⟩, c_43, 1, some .int),
  (1, ⟨"ReelOfBoxesModel", "isTooMany", "()Z"⟩, c_44, 3, some .boolean),
  (1, ⟨"ReelOfBoxesModel", "isGoneInto", "()Z"⟩, c_45, 1, some .boolean),
  (1, ⟨"ReelOfBoxesModel", "note", "(I)V"⟩, c_46, 4, none),
  (1, ⟨"ReelOfBoxesModel", "isWhole", "()Z"⟩, c_47, 2, some .boolean),
  (1, ⟨"ReelOfBoxesModel", "tell", "(II)I"⟩, c_48, 3, some .int),
  (1, ⟨"ReelOfBoxesModel", "readBoxes", "()I"⟩, c_49, 3, some .int),
  (1, ⟨"ReelOfBoxesModel", "entrySize", "(II)I"⟩, c_50, 3, some .int),
  (1, ⟨"ReelOfBoxesModel", "headSize", "(I)I"⟩, c_51, 2, some .int),
  (1, ⟨"ReelOfBoxesModel", "manyOf", "(II)J"⟩, c_52, 3, some .long),
  (1, ⟨"ReelOfBoxesModel", "entriesOf", "(II)J"⟩, c_53, 3, some .long),
  (1, ⟨"ReelOfBoxesModel", "hasLength", "(II)Z"⟩, c_54, 4, some .boolean),
  (1, ⟨"ReelOfBoxesModel", "entry", "(IIII)J"⟩, c_55, 6, some .long),
  (1, ⟨"ReelOfBoxesModel", "isRight", "(J)Z"⟩, c_56, 2, some .boolean),
  (1, ⟨"ReelOfBoxesModel", "isEntryRight", "(III)Z"⟩, c_57, 9, some .boolean),
  (1, ⟨"ReelOfBoxesModel", "areNumbersRight", "(II)Z"⟩, c_58, 7, some .boolean),
  (1, ⟨"ReelOfBoxesModel", "readTables", "()I"⟩, c_59, 3, some .int),
  (1, ⟨"ReelOfBoxesModel", "perChunk", "(II)J"⟩, c_60, 6, some .long),
  (1, ⟨"ReelOfBoxesModel", "sizeOf", "(II)J"⟩, c_61, 5, some .long),
  (1, ⟨"ReelOfBoxesModel", "agrees", "(I)Z"⟩, c_62, 12, some .boolean),
  (1, ⟨"ReelOfBoxesModel", "findSamples", "(I)V"⟩, c_63, 8, none),
  (1, ⟨"ReelOfBoxesModel", "allInData", "(I)Z"⟩, c_64, 4, some .boolean),
  (1, ⟨"ReelOfBoxesModel", "readSamples", "()I"⟩, c_65, 2, some .int),
  (1, ⟨"ReelOfBoxesModel", "keep", "()V"⟩, c_66, 6, none),
  (1, ⟨"ReelOfBoxesModel", "read", "()I"⟩, c_67, 2, some .int),
  (1, ⟨"ReelOfBoxesModel", "place", "()I"⟩, c_68, 1, some .int),
  (1, ⟨"ReelOfBoxesModel", "tracks", "()I"⟩, c_69, 1, some .int),
  (1, ⟨"ReelOfBoxesModel", "samples", "(I)I"⟩, c_70, 2, some .int),
  (1, ⟨"ReelOfBoxesModel", "size", "(II)I"⟩, c_71, 3, some .int),
  (1, ⟨"ReelOfBoxesModel", "time", "(II)J"⟩, c_72, 6, some .long),
  (1, ⟨"ReelOfBoxesModel", "bytes", "(II)J"⟩, c_73, 3, some .long),
  (1, ⟨"ReelOfBoxesModel", "length", "()I"⟩, c_74, 1, some .int),
  (1, ⟨"ReelOfBoxesModel", "isByte", "(I)Z"⟩, c_75, 2, some .boolean),
  (1, ⟨"ReelOfBoxesModel", "at", "(I)I"⟩, c_76, 2, some .int),
  (1, ⟨"ReelOfBoxesModel", "poke", "(II)Z"⟩, c_77, 3, some .boolean),
  (1, ⟨"ReelOfBoxesModel", "append", "(JI)I"⟩, c_78, 4, some .int),
  (1, ⟨"ReelOfBoxesModel", "cut", "(I)Z"⟩, c_79, 2, some .boolean),
  (2, ⟨"ReelOfBoxes$ByteRow", "<init>", "()V"⟩, c_80, 1, none),
  (2, ⟨"ReelOfBoxes$ByteRow", "byteCount", "()I"⟩, c_81, 1, some .int),
  (2, ⟨"ReelOfBoxes$ByteRow", "byteAt", "(I)I"⟩, c_82, 2, some .int),
  (2, ⟨"ReelOfBoxes$ByteRow", "setByte", "(II)Z"⟩, c_83, 3, some .boolean),
  (2, ⟨"ReelOfBoxes$ByteRow", "keepFirst", "(I)Z"⟩, c_84, 2, some .boolean),
  (2, ⟨"ReelOfBoxes$ByteRow", "addNumber", "(JI)I"⟩, c_85, 5, some .int),
  (2, ⟨"ReelOfBoxes$ByteRow", "number", "(II)J"⟩, c_86, 6, some .long),
  (2, ⟨"ReelOfBoxes$ByteRow", "lowestFirst", "(JI)J"⟩, c_87, 7, some .long),
  (3, ⟨"ReelOfBoxes$Fault", "<init>", "()V"⟩, c_88, 1, none),
  (3, ⟨"ReelOfBoxes$Fault", "forget", "()V"⟩, c_89, 1, none),
  (3, ⟨"ReelOfBoxes$Fault", "tell", "(II)Z"⟩, c_90, 3, some .boolean),
  (4, ⟨"ReelOfBoxes$Finder", "<init>", "(LReelOfBoxes$ByteRow;LReelOfBoxes$Fault;)V"⟩, c_91, 4, none),
  (4, ⟨"ReelOfBoxes$Finder", "findAll", "()Z"⟩, c_92, 2, some .boolean),
  (4, ⟨"ReelOfBoxes$Finder", "begin", "()V"⟩, c_93, 1, none),
  (4, ⟨"ReelOfBoxes$Finder", "takeBox", "()Z"⟩, c_94, 1, some .boolean),
  (4, ⟨"ReelOfBoxes$Finder", "readHead", "(I)Z"⟩, c_95, 5, some .boolean),
  (4, ⟨"ReelOfBoxes$Finder", "keepBox", "()Z"⟩, c_96, 1, some .boolean),
  (4, ⟨"ReelOfBoxes$Finder", "keepInFile", "()Z"⟩, c_97, 2, some .boolean),
  (4, ⟨"ReelOfBoxes$Finder", "keepTable", "()Z"⟩, c_98, 2, some .boolean),
  (4, ⟨"ReelOfBoxes$Finder", "openTrak", "()Z"⟩, c_99, 1, some .boolean),
  (4, ⟨"ReelOfBoxes$Finder", "stepOn", "()V"⟩, c_100, 1, none),
  (4, ⟨"ReelOfBoxes$Finder", "levelIsWhole", "()Z"⟩, c_101, 1, some .boolean),
  (5, ⟨"ReelOfBoxes$Reader", "<init>", "(LReelOfBoxes$ByteRow;)V"⟩, c_102, 2, none),
  (5, ⟨"ReelOfBoxes$Reader", "faultPlace", "()I"⟩, c_103, 1, some .int),
  (5, ⟨"ReelOfBoxes$Reader", "readInto", "(LReelOfBoxes$Reel;)I"⟩, c_104, 2, some .int),
  (5, ⟨"ReelOfBoxes$Reader", "tablesAreRight", "()Z"⟩, c_105, 5, some .boolean),
  (5, ⟨"ReelOfBoxes$Reader", "tablesAgree", "()Z"⟩, c_106, 3, some .boolean),
  (5, ⟨"ReelOfBoxes$Reader", "samplesAreInside", "()Z"⟩, c_107, 3, some .boolean),
  (5, ⟨"ReelOfBoxes$Reader", "fillReel", "(LReelOfBoxes$Reel;)V"⟩, c_108, 4, none),
  (5, ⟨"ReelOfBoxes$Reader", "fillTrack", "(LReelOfBoxes$Track;LReelOfBoxes$TrackBoxes;)V"⟩, c_109, 5, none),
  (6, ⟨"ReelOfBoxes$Reel", "<init>", "()V"⟩, c_110, 2, none),
  (6, ⟨"ReelOfBoxes$Reel", "trackCount", "()I"⟩, c_111, 1, some .int),
  (6, ⟨"ReelOfBoxes$Reel", "find", "(I)LReelOfBoxes$Track;"⟩, c_112, 2, some (.object "ReelOfBoxes$Track")),
  (6, ⟨"ReelOfBoxes$Reel", "openTrack", "()I"⟩, c_113, 1, some .int),
  (6, ⟨"ReelOfBoxes$Reel", "makeEmpty", "()I"⟩, c_114, 2, some .int),
  (7, ⟨"ReelOfBoxes$Table", "<init>", "(LReelOfBoxes$ByteRow;)V"⟩, c_115, 2, none),
  (7, ⟨"ReelOfBoxes$Table", "forget", "()V"⟩, c_116, 1, none),
  (7, ⟨"ReelOfBoxes$Table", "isFound", "()Z"⟩, c_117, 1, some .boolean),
  (7, ⟨"ReelOfBoxes$Table", "find", "(IIII)V"⟩, c_118, 5, none),
  (7, ⟨"ReelOfBoxes$Table", "widthOfEntry", "(I)I"⟩, c_119, 1, some .int),
  (7, ⟨"ReelOfBoxes$Table", "told", "()J"⟩, c_120, 1, some .long),
  (7, ⟨"ReelOfBoxes$Table", "sizeForAll", "()J"⟩, c_121, 1, some .long),
  (7, ⟨"ReelOfBoxes$Table", "listed", "()I"⟩, c_122, 2, some .int),
  (7, ⟨"ReelOfBoxes$Table", "entryNumber", "(II)J"⟩, c_123, 4, some .long),
  (7, ⟨"ReelOfBoxes$Table", "ownFault", "()I"⟩, c_124, 3, some .int),
  (7, ⟨"ReelOfBoxes$Table", "lengthIsRight", "()Z"⟩, c_125, 5, some .boolean),
  (7, ⟨"ReelOfBoxes$Table", "headIsRight", "()Z"⟩, c_126, 1, some .boolean),
  (7, ⟨"ReelOfBoxes$Table", "entryIsRight", "(I)Z"⟩, c_127, 4, some .boolean),
  (7, ⟨"ReelOfBoxes$Table", "isCount", "(J)Z"⟩, c_128, 2, some .boolean),
  (8, ⟨"ReelOfBoxes$Track", "<init>", "()V"⟩, c_129, 1, none),
  (8, ⟨"ReelOfBoxes$Track", "sampleCount", "()I"⟩, c_130, 1, some .int),
  (8, ⟨"ReelOfBoxes$Track", "dropSamples", "()V"⟩, c_131, 1, none),
  (8, ⟨"ReelOfBoxes$Track", "addSample", "(IJI)I"⟩, c_132, 5, some .int),
  (8, ⟨"ReelOfBoxes$Track", "sizeOf", "(I)I"⟩, c_133, 2, some .int),
  (8, ⟨"ReelOfBoxes$Track", "durationOf", "(I)I"⟩, c_134, 2, some .int),
  (8, ⟨"ReelOfBoxes$Track", "bytesOf", "(I)J"⟩, c_135, 2, some .long),
  (8, ⟨"ReelOfBoxes$Track", "timeOf", "(I)J"⟩, c_136, 5, some .long),
  (8, ⟨"ReelOfBoxes$Track", "lowestBytes", "(JI)J"⟩, c_137, 3, some .long),
  (9, ⟨"ReelOfBoxes$TrackBoxes", "<init>", "(LReelOfBoxes$ByteRow;)V"⟩, c_138, 3, none),
  (9, ⟨"ReelOfBoxes$TrackBoxes", "forget", "()V"⟩, c_139, 2, none),
  (9, ⟨"ReelOfBoxes$TrackBoxes", "hasStbl", "()Z"⟩, c_140, 1, some .boolean),
  (9, ⟨"ReelOfBoxes$TrackBoxes", "takeStbl", "(I)Z"⟩, c_141, 2, some .boolean),
  (9, ⟨"ReelOfBoxes$TrackBoxes", "tableFor", "(I)LReelOfBoxes$Table;"⟩, c_142, 3, some (.object "ReelOfBoxes$Table")),
  (9, ⟨"ReelOfBoxes$TrackBoxes", "hasAllTables", "()Z"⟩, c_143, 2, some .boolean),
  (9, ⟨"ReelOfBoxes$TrackBoxes", "tablesAgree", "()Z"⟩, c_144, 5, some .boolean),
  (9, ⟨"ReelOfBoxes$TrackBoxes", "samplesOfStts", "()J"⟩, c_145, 6, some .long),
  (9, ⟨"ReelOfBoxes$TrackBoxes", "sizeToldOf", "(I)J"⟩, c_146, 4, some .long),
  (9, ⟨"ReelOfBoxes$TrackBoxes", "sizesAreSmall", "(I)Z"⟩, c_147, 3, some .boolean),
  (9, ⟨"ReelOfBoxes$TrackBoxes", "entriesMeetChunks", "(I)Z"⟩, c_148, 3, some .boolean),
  (9, ⟨"ReelOfBoxes$TrackBoxes", "samplesOfChunks", "(I)J"⟩, c_149, 9, some .long),
  (9, ⟨"ReelOfBoxes$TrackBoxes", "unfold", "()V"⟩, c_150, 2, none),
  (9, ⟨"ReelOfBoxes$TrackBoxes", "unfoldDurations", "()V"⟩, c_151, 8, none),
  (9, ⟨"ReelOfBoxes$TrackBoxes", "unfoldBegins", "()V"⟩, c_152, 12, none),
  (9, ⟨"ReelOfBoxes$TrackBoxes", "samplesLieIn", "(II)Z"⟩, c_153, 4, some .boolean),
  (10, ⟨"ReelOfBoxes$Writer", "<init>", "(LReelOfBoxes$Reel;LReelOfBoxes$ByteRow;)V"⟩, c_154, 3, none),
  (10, ⟨"ReelOfBoxes$Writer", "writeReel", "(II)I"⟩, c_155, 5, some .int),
  (10, ⟨"ReelOfBoxes$Writer", "chunkCount", "(LReelOfBoxes$Track;)I"⟩, c_156, 2, some .int),
  (10, ⟨"ReelOfBoxes$Writer", "chunkEnd", "(LReelOfBoxes$Track;I)I"⟩, c_157, 3, some .int),
  (10, ⟨"ReelOfBoxes$Writer", "beginsRow", "(LReelOfBoxes$Track;I)Z"⟩, c_158, 3, some .boolean),
  (10, ⟨"ReelOfBoxes$Writer", "rowFrom", "(LReelOfBoxes$Track;I)I"⟩, c_159, 5, some .int),
  (10, ⟨"ReelOfBoxes$Writer", "sttsEntries", "(LReelOfBoxes$Track;)I"⟩, c_160, 5, some .int),
  (10, ⟨"ReelOfBoxes$Writer", "stscEntries", "(LReelOfBoxes$Track;)I"⟩, c_161, 3, some .int),
  (10, ⟨"ReelOfBoxes$Writer", "placeWidth", "()I"⟩, c_162, 1, some .int),
  (10, ⟨"ReelOfBoxes$Writer", "tableSize", "(II)I"⟩, c_163, 2, some .int),
  (10, ⟨"ReelOfBoxes$Writer", "stszSize", "(I)I"⟩, c_164, 1, some .int),
  (10, ⟨"ReelOfBoxes$Writer", "stblSize", "(LReelOfBoxes$Track;)I"⟩, c_165, 2, some .int),
  (10, ⟨"ReelOfBoxes$Writer", "moovSize", "()I"⟩, c_166, 4, some .int),
  (10, ⟨"ReelOfBoxes$Writer", "layChunks", "(I)I"⟩, c_167, 6, some .int),
  (10, ⟨"ReelOfBoxes$Writer", "chunkBytes", "(LReelOfBoxes$Track;I)I"⟩, c_168, 6, some .int),
  (10, ⟨"ReelOfBoxes$Writer", "put", "(J)V"⟩, c_169, 3, none),
  (10, ⟨"ReelOfBoxes$Writer", "putHead", "(II)V"⟩, c_170, 3, none),
  (10, ⟨"ReelOfBoxes$Writer", "putTableHead", "(III)V"⟩, c_171, 4, none),
  (10, ⟨"ReelOfBoxes$Writer", "writeMoov", "(I)V"⟩, c_172, 4, none),
  (10, ⟨"ReelOfBoxes$Writer", "writeStts", "(LReelOfBoxes$Track;)V"⟩, c_173, 4, none),
  (10, ⟨"ReelOfBoxes$Writer", "writeStsc", "(LReelOfBoxes$Track;)V"⟩, c_174, 3, none),
  (10, ⟨"ReelOfBoxes$Writer", "putStscEntry", "(LReelOfBoxes$Track;I)V"⟩, c_175, 3, none),
  (10, ⟨"ReelOfBoxes$Writer", "writeStsz", "(LReelOfBoxes$Track;)V"⟩, c_176, 4, none),
  (10, ⟨"ReelOfBoxes$Writer", "writePlaces", "(LReelOfBoxes$Track;I)V"⟩, c_177, 5, none),
  (10, ⟨"ReelOfBoxes$Writer", "writeMdat", "(I)V"⟩, c_178, 5, none),
  (10, ⟨"ReelOfBoxes$Writer", "writeChunk", "(LReelOfBoxes$Track;I)V"⟩, c_179, 7, none)]
def aj_run : Nat → List Cond
  | 0 => k2_sels lw_privs
  | 1 => tables_1_1
  | 2 => tables_1_2
  | 3 => tables_1_3
  | 4 => tables_1_4
  | _ => tables_1_5
theorem aj_run_in : ∀ (j : Nat) (w : Cond), w ∈ aj_run j → w ∈ lw_tbl
  | 0, _, h => List.mem_append_left _ h
  | 1, _, h => List.mem_append_right _ (List.mem_append_left _ h)
  | 2, _, h => List.mem_append_right _ (List.mem_append_right _ (List.mem_append_left _ h))
  | 3, _, h => List.mem_append_right _ (List.mem_append_right _ (List.mem_append_right _ (List.mem_append_left _ h)))
  | 4, _, h => List.mem_append_right _ (List.mem_append_right _ (List.mem_append_right _ (List.mem_append_right _ (List.mem_append_left _ h))))
  | _ + 5, _, h => List.mem_append_right _ (List.mem_append_right _ (List.mem_append_right _ (List.mem_append_right _ (List.mem_append_right _ (h)))))
def aj_mk : List (Nat × List (Nat × Nat)) := [(2, [(1, 1), (1, 16)]), (0, [(1, 1), (2, 21), (2, 22)]), (0, [(1, 1), (2, 33), (2, 34)]), (0, [(1, 1), (2, 48), (2, 49)]), (0, [(1, 1), (2, 56), (2, 57)]), (0, [(1, 1), (2, 202), (2, 203)]), (0, [(1, 1), (3, 189), (3, 190)]), (0, [(1, 1), (3, 197), (3, 198)]), (0, [(1, 1), (3, 205), (3, 206)]), (0, [(1, 1), (3, 210), (3, 211)]), (0, [(1, 1), (3, 215), (3, 216)]), (0, [(1, 1), (3, 225), (3, 226)]), (0, [(1, 1), (3, 230), (3, 231)]), (0, [(1, 1), (3, 235), (3, 236)]), (0, [(1, 1), (4, 3), (4, 4)]), (0, [(1, 1), (4, 11), (4, 12)]), (0, [(1, 1), (4, 16), (4, 17)]), (1, [(1, 1), (3, 94)]), (1, [(1, 1), (3, 35)]), (2, [(1, 11), (4, 23)]), (0, [(1, 11), (4, 113), (4, 114)]), (0, [(1, 11), (4, 122), (0, 46)]), (0, [(1, 11), (5, 89), (0, 86)]), (0, [(1, 11), (4, 117), (4, 118)]), (0, [(1, 11), (4, 125), (4, 126)]), (0, [(1, 11), (4, 163), (0, 54)]), (0, [(1, 11), (4, 159), (0, 53)]), (0, [(1, 11), (4, 146), (0, 50)]), (0, [(1, 11), (4, 150), (0, 51)]), (0, [(1, 11), (4, 138), (0, 48)]), (0, [(1, 11), (4, 142), (0, 49)]), (0, [(1, 11), (4, 134), (0, 47)]), (0, [(1, 11), (4, 195), (0, 60)]), (0, [(1, 11), (4, 191), (0, 59)]), (0, [(1, 11), (4, 170), (0, 55)]), (0, [(1, 11), (4, 175), (0, 56)]), (0, [(1, 11), (4, 180), (0, 57)]), (0, [(1, 11), (4, 185), (0, 58)]), (0, [(1, 11), (4, 154), (0, 52)]), (0, [(1, 11), (4, 200), (0, 61)]), (0, [(1, 11), (4, 129), (4, 130)]), (0, [(1, 11), (4, 224), (0, 66)]), (0, [(1, 11), (4, 220), (0, 65)]), (1, [(1, 11), (4, 231)]), (0, [(1, 11), (4, 228), (0, 67)]), (0, [(1, 11), (4, 239), (0, 69)]), (0, [(1, 11), (4, 235), (0, 68)]), (0, [(1, 11), (4, 212), (0, 63)]), (0, [(1, 11), (4, 216), (0, 64)]), (0, [(1, 11), (4, 208), (0, 62)]), (0, [(1, 11), (5, 23), (0, 75)]), (0, [(1, 11), (5, 11), (0, 72)]), (0, [(1, 11), (5, 19), (0, 74)]), (0, [(1, 11), (5, 15), (0, 73)]), (0, [(1, 11), (5, 7), (0, 71)]), (0, [(1, 11), (5, 39), (0, 78)]), (1, [(1, 11), (5, 30)]), (0, [(1, 11), (5, 35), (0, 77)]), (0, [(1, 11), (5, 27), (0, 76)]), (0, [(1, 11), (5, 3), (0, 70)]), (0, [(1, 11), (5, 57), (0, 82)]), (0, [(1, 11), (5, 52), (0, 81)]), (0, [(1, 11), (5, 47), (0, 80)]), (0, [(1, 11), (5, 61), (0, 83)]), (0, [(1, 11), (5, 65), (0, 84)]), (0, [(1, 11), (5, 43), (0, 79)]), (0, [(1, 11), (5, 69), (0, 85)]), (0, [(1, 11), (4, 203), (4, 204)]), (0, [(1, 11), (5, 72), (5, 73)]), (0, [(1, 11), (5, 76), (5, 77)]), (0, [(1, 11), (5, 80), (5, 81)]), (0, [(1, 11), (5, 84), (5, 85)]), (0, [(1, 11), (5, 92), (5, 93)]), (0, [(1, 11), (5, 97), (5, 98)]), (0, [(1, 11), (5, 101), (5, 102)]), (0, [(1, 11), (5, 110), (0, 87)]), (0, [(1, 11), (5, 105), (5, 106)]), (0, [(1, 11), (5, 113), (5, 114)]), (0, [(1, 11), (5, 117), (5, 118)]), (0, [(1, 11), (5, 121), (5, 122)]), (2, [(1, 4), (1, 59)]), (0, [(1, 4), (2, 198), (2, 199)]), (0, [(1, 4), (3, 239), (4, 0)]), (0, [(1, 4), (4, 7), (4, 8)]), (0, [(1, 4), (2, 129), (2, 130)]), (0, [(1, 4), (2, 146), (2, 147)]), (0, [(1, 4), (2, 231), (2, 232)]), (0, [(1, 4), (3, 184), (3, 185)]), (2, [(1, 6), (1, 79)]), (0, [(1, 6), (2, 210), (2, 211)]), (0, [(1, 6), (2, 235), (2, 236)]), (2, [(1, 7), (1, 94)]), (0, [(1, 7), (2, 214), (2, 215)]), (0, [(1, 7), (2, 219), (0, 22)]), (0, [(1, 7), (2, 224), (0, 23)]), (0, [(1, 7), (2, 228), (0, 24)]), (0, [(1, 7), (3, 0), (0, 25)]), (0, [(1, 7), (3, 4), (0, 26)]), (0, [(1, 7), (3, 28), (0, 28)]), (0, [(1, 7), (3, 11), (0, 27)]), (0, [(1, 7), (3, 51), (0, 29)]), (0, [(1, 7), (3, 57), (0, 30)]), (2, [(1, 5), (1, 73)]), (0, [(1, 5), (3, 193), (3, 194)]), (0, [(1, 5), (2, 206), (2, 207)]), (0, [(1, 5), (3, 70), (0, 31)]), (0, [(1, 5), (3, 119), (0, 35)]), (0, [(1, 5), (3, 153), (0, 41)]), (0, [(1, 5), (3, 174), (0, 44)]), (0, [(1, 5), (3, 181), (0, 45)]), (2, [(1, 2), (1, 24)]), (0, [(1, 2), (3, 201), (3, 202)]), (0, [(1, 2), (2, 37), (2, 38)]), (0, [(1, 2), (2, 25), (2, 26)]), (0, [(1, 2), (2, 52), (2, 53)]), (2, [(1, 9), (1, 108)]), (0, [(1, 9), (3, 18), (3, 19)]), (0, [(1, 9), (3, 38), (3, 39)]), (0, [(1, 9), (3, 42), (3, 43)]), (1, [(1, 9), (3, 47)]), (0, [(1, 9), (3, 86), (3, 87)]), (0, [(1, 9), (3, 81), (3, 82)]), (0, [(1, 9), (3, 98), (3, 99)]), (0, [(1, 9), (3, 109), (3, 110)]), (0, [(1, 9), (3, 73), (3, 74)]), (0, [(1, 9), (3, 78), (0, 32)]), (0, [(1, 9), (3, 91), (0, 33)]), (0, [(1, 9), (3, 106), (0, 34)]), (1, [(1, 9), (3, 114)]), (2, [(1, 3), (1, 31)]), (0, [(1, 3), (2, 80), (2, 81)]), (0, [(1, 3), (2, 29), (2, 30)]), (0, [(1, 3), (2, 41), (2, 42)]), (0, [(1, 3), (2, 125), (2, 126)]), (0, [(1, 3), (2, 88), (2, 89)]), (0, [(1, 3), (2, 194), (2, 195)]), (0, [(1, 3), (3, 220), (3, 221)]), (1, [(1, 3), (2, 45)]), (2, [(1, 8), (1, 101)]), (0, [(1, 8), (3, 14), (3, 15)]), (0, [(1, 8), (3, 60), (3, 61)]), (0, [(1, 8), (3, 23), (3, 24)]), (0, [(1, 8), (3, 31), (3, 32)]), (0, [(1, 8), (3, 64), (3, 65)]), (0, [(1, 8), (3, 122), (3, 123)]), (0, [(1, 8), (3, 129), (0, 36)]), (0, [(1, 8), (3, 139), (0, 38)]), (0, [(1, 8), (3, 135), (0, 37)]), (0, [(1, 8), (3, 145), (0, 39)]), (0, [(1, 8), (3, 149), (0, 40)]), (0, [(1, 8), (3, 156), (3, 157)]), (0, [(1, 8), (3, 162), (0, 42)]), (0, [(1, 8), (3, 166), (0, 43)]), (0, [(1, 8), (3, 169), (3, 170)]), (2, [(1, 10), (1, 225)]), (0, [(1, 10), (2, 60), (2, 61)]), (0, [(1, 10), (2, 103), (0, 5)]), (0, [(1, 10), (2, 119), (0, 9)]), (0, [(1, 10), (2, 85), (0, 3)]), (0, [(1, 10), (2, 162), (0, 15)]), (0, [(1, 10), (2, 77), (0, 2)]), (0, [(1, 10), (2, 96), (0, 4)]), (0, [(1, 10), (2, 107), (0, 6)]), (1, [(1, 10), (2, 92)]), (1, [(1, 10), (2, 99)]), (0, [(1, 10), (2, 73), (0, 1)]), (0, [(1, 10), (2, 68), (0, 0)]), (0, [(1, 10), (2, 111), (0, 7)]), (0, [(1, 10), (2, 115), (0, 8)]), (0, [(1, 10), (2, 143), (0, 12)]), (0, [(1, 10), (2, 139), (0, 11)]), (0, [(1, 10), (2, 158), (0, 14)]), (0, [(1, 10), (2, 134), (0, 10)]), (0, [(1, 10), (2, 153), (0, 13)]), (0, [(1, 10), (2, 166), (0, 16)]), (0, [(1, 10), (2, 171), (0, 17)]), (0, [(1, 10), (2, 175), (0, 18)]), (0, [(1, 10), (2, 180), (0, 19)]), (0, [(1, 10), (2, 186), (0, 20)]), (0, [(1, 10), (2, 191), (0, 21)])]
def aj_lmp : List (Nat × Nat) := [(1, 23), (0, 0), (1, 72), (1, 224), (2, 24), (2, 36), (2, 40), (2, 51), (2, 59), (2, 205), (3, 192), (3, 200), (3, 208), (3, 213), (3, 219), (3, 228), (3, 233), (3, 238), (4, 6), (4, 14), (4, 19), (4, 120), (4, 161), (4, 144), (4, 148), (4, 136), (4, 140), (4, 193), (4, 157), (4, 189), (4, 132), (4, 152), (4, 168), (4, 173), (4, 178), (4, 183), (4, 198), (4, 222), (4, 230), (4, 210), (4, 214), (4, 218), (4, 226), (4, 233), (4, 237), (5, 9), (5, 17), (5, 13), (5, 21), (5, 37), (5, 29), (5, 33), (5, 5), (5, 25), (5, 50), (5, 55), (5, 45), (5, 59), (5, 63), (4, 206), (5, 1), (5, 41), (5, 67), (5, 87), (5, 108), (1, 100), (2, 217), (2, 222), (3, 49), (3, 55), (2, 234), (2, 221), (2, 226), (2, 238), (2, 230), (3, 2), (3, 9), (3, 22), (3, 26), (3, 30), (3, 37), (3, 41), (3, 13), (3, 59), (3, 63), (0, 0), (1, 93), (2, 209), (2, 213), (3, 68), (3, 117), (3, 151), (3, 172), (3, 72), (3, 116), (3, 121), (3, 155), (3, 168), (3, 176), (3, 177), (3, 178), (3, 179), (3, 183), (3, 187), (0, 0), (2, 28), (3, 46), (3, 84), (3, 80), (3, 85), (3, 76), (3, 89), (3, 97), (3, 104), (0, 0), (3, 108), (3, 113), (2, 44), (1, 107), (3, 17), (0, 0), (3, 67), (3, 125), (3, 127), (3, 133), (3, 143), (3, 147), (3, 131), (3, 132), (3, 141), (3, 137), (3, 160), (3, 164), (2, 66), (2, 109), (2, 128), (2, 132), (2, 184), (2, 197), (2, 79), (2, 87), (2, 83), (2, 91), (2, 75), (2, 94), (2, 98), (2, 101), (2, 105), (2, 70), (2, 71), (2, 113), (2, 117), (2, 124), (2, 145), (2, 141), (2, 137), (2, 151), (2, 164), (2, 173), (2, 178), (2, 156), (2, 160), (2, 169), (2, 189), (2, 193), (1, 15), (4, 22), (2, 20), (4, 112), (2, 32), (4, 116), (2, 47), (4, 124), (2, 55), (4, 128), (2, 201), (4, 202), (3, 188), (5, 71), (3, 196), (5, 75), (3, 204), (5, 79), (3, 209), (5, 83), (3, 214), (5, 91), (3, 224), (5, 96), (3, 229), (5, 100), (3, 234), (5, 104), (4, 2), (5, 112), (4, 10), (5, 116), (4, 15), (5, 120)]
def aj_lfs : List (Nat × Nat × Nat × Nat × Nat × Nat) := [(0, 10, 0, 0, 4, 1), (0, 19, 0, 1, 4, 1), (0, 28, 0, 2, 4, 1), (0, 37, 0, 3, 4, 1), (1, 7, 1, 1, 4, 1), (1, 13, 1, 2, 4, 1), (1, 16, 1, 3, 4, 1), (1, 19, 1, 4, 4, 1), (1, 23, 1, 6, 4, 1), (1, 26, 1, 7, 0, 0), (1, 30, 1, 9, 4, 1), (1, 33, 1, 10, 4, 1), (1, 36, 1, 16, 4, 1), (1, 39, 1, 17, 4, 1), (1, 42, 1, 18, 4, 1), (1, 45, 1, 19, 4, 1), (1, 48, 1, 20, 4, 1), (1, 52, 1, 24, 4, 1), (1, 55, 1, 25, 4, 1), (1, 58, 1, 26, 4, 1), (1, 61, 1, 27, 4, 1), (1, 64, 1, 0, 0, 0), (1, 71, 1, 5, 0, 0), (1, 143, 1, 21, 0, 0), (1, 146, 1, 22, 0, 0), (1, 149, 1, 23, 0, 0), (1, 152, 1, 8, 0, 0), (1, 155, 1, 11, 0, 0), (1, 158, 1, 12, 0, 0), (1, 161, 1, 15, 0, 0), (1, 167, 1, 13, 0, 0), (1, 170, 1, 14, 0, 0), (2, 9, 2, 0, 4, 1), (2, 15, 2, 1, 0, 0), (3, 9, 3, 0, 0, 0), (3, 15, 3, 1, 0, 0), (4, 11, 4, 2, 4, 1), (4, 17, 4, 3, 4, 1), (4, 21, 4, 4, 4, 1), (4, 24, 4, 5, 0, 0), (4, 28, 4, 6, 3, 0), (4, 32, 4, 7, 3, 0), (4, 35, 4, 8, 0, 0), (4, 38, 4, 9, 0, 0), (4, 41, 4, 10, 0, 0), (4, 44, 4, 12, 0, 0), (4, 47, 4, 13, 0, 0), (4, 50, 4, 14, 0, 0), (4, 53, 4, 15, 0, 0), (4, 56, 4, 0, 4, 1), (4, 60, 4, 1, 4, 1), (4, 67, 4, 11, 4, 0), (5, 9, 5, 0, 4, 1), (5, 18, 5, 1, 4, 1), (5, 27, 5, 2, 4, 1), (5, 31, 3, 1, 0, 2), (5, 55, 3, 0, 0, 2), (5, 58, 4, 10, 0, 2), (5, 61, 4, 2, 4, 2), (5, 65, 9, 0, 4, 2), (5, 77, 7, 1, 0, 2), (5, 85, 9, 5, 0, 2), (5, 91, 4, 8, 0, 2), (5, 94, 4, 9, 0, 2), (5, 116, 9, 4, 0, 2), (5, 119, 9, 2, 4, 2), (5, 123, 9, 1, 4, 2), (5, 126, 9, 3, 4, 2), (6, 11, 6, 0, 4, 1), (6, 17, 6, 1, 0, 0), (7, 9, 7, 1, 0, 0), (7, 15, 7, 2, 0, 0), (7, 18, 7, 3, 0, 0), (7, 21, 7, 4, 0, 0), (7, 24, 7, 5, 0, 0), (7, 27, 7, 6, 0, 0), (7, 30, 7, 0, 4, 1), (8, 9, 8, 0, 4, 1), (8, 15, 8, 1, 4, 1), (8, 18, 8, 2, 4, 1), (8, 22, 8, 3, 0, 0), (9, 11, 9, 0, 4, 1), (9, 17, 9, 1, 4, 1), (9, 21, 9, 2, 4, 1), (9, 24, 9, 3, 4, 1), (9, 28, 9, 4, 0, 0), (9, 32, 9, 5, 0, 0), (10, 9, 10, 2, 4, 1), (10, 15, 10, 3, 0, 0), (10, 19, 10, 4, 3, 0), (10, 23, 10, 5, 3, 0), (10, 26, 10, 0, 4, 1), (10, 30, 10, 1, 4, 1)]
theorem lf_0_10 : (0, 10, 0, 0, 4, 1) ∈ aj_lfs := List.mem_of_getElem? (i := 0) rfl
theorem lf_0_19 : (0, 19, 0, 1, 4, 1) ∈ aj_lfs := List.mem_of_getElem? (i := 1) rfl
theorem lf_0_28 : (0, 28, 0, 2, 4, 1) ∈ aj_lfs := List.mem_of_getElem? (i := 2) rfl
theorem lf_0_37 : (0, 37, 0, 3, 4, 1) ∈ aj_lfs := List.mem_of_getElem? (i := 3) rfl
theorem lf_1_7 : (1, 7, 1, 1, 4, 1) ∈ aj_lfs := List.mem_of_getElem? (i := 4) rfl
theorem lf_1_13 : (1, 13, 1, 2, 4, 1) ∈ aj_lfs := List.mem_of_getElem? (i := 5) rfl
theorem lf_1_16 : (1, 16, 1, 3, 4, 1) ∈ aj_lfs := List.mem_of_getElem? (i := 6) rfl
theorem lf_1_19 : (1, 19, 1, 4, 4, 1) ∈ aj_lfs := List.mem_of_getElem? (i := 7) rfl
theorem lf_1_23 : (1, 23, 1, 6, 4, 1) ∈ aj_lfs := List.mem_of_getElem? (i := 8) rfl
theorem lf_1_26 : (1, 26, 1, 7, 0, 0) ∈ aj_lfs := List.mem_of_getElem? (i := 9) rfl
theorem lf_1_30 : (1, 30, 1, 9, 4, 1) ∈ aj_lfs := List.mem_of_getElem? (i := 10) rfl
theorem lf_1_33 : (1, 33, 1, 10, 4, 1) ∈ aj_lfs := List.mem_of_getElem? (i := 11) rfl
theorem lf_1_36 : (1, 36, 1, 16, 4, 1) ∈ aj_lfs := List.mem_of_getElem? (i := 12) rfl
theorem lf_1_39 : (1, 39, 1, 17, 4, 1) ∈ aj_lfs := List.mem_of_getElem? (i := 13) rfl
theorem lf_1_42 : (1, 42, 1, 18, 4, 1) ∈ aj_lfs := List.mem_of_getElem? (i := 14) rfl
theorem lf_1_45 : (1, 45, 1, 19, 4, 1) ∈ aj_lfs := List.mem_of_getElem? (i := 15) rfl
theorem lf_1_48 : (1, 48, 1, 20, 4, 1) ∈ aj_lfs := List.mem_of_getElem? (i := 16) rfl
theorem lf_1_52 : (1, 52, 1, 24, 4, 1) ∈ aj_lfs := List.mem_of_getElem? (i := 17) rfl
theorem lf_1_55 : (1, 55, 1, 25, 4, 1) ∈ aj_lfs := List.mem_of_getElem? (i := 18) rfl
theorem lf_1_58 : (1, 58, 1, 26, 4, 1) ∈ aj_lfs := List.mem_of_getElem? (i := 19) rfl
theorem lf_1_61 : (1, 61, 1, 27, 4, 1) ∈ aj_lfs := List.mem_of_getElem? (i := 20) rfl
theorem lf_1_64 : (1, 64, 1, 0, 0, 0) ∈ aj_lfs := List.mem_of_getElem? (i := 21) rfl
theorem lf_1_71 : (1, 71, 1, 5, 0, 0) ∈ aj_lfs := List.mem_of_getElem? (i := 22) rfl
theorem lf_1_143 : (1, 143, 1, 21, 0, 0) ∈ aj_lfs := List.mem_of_getElem? (i := 23) rfl
theorem lf_1_146 : (1, 146, 1, 22, 0, 0) ∈ aj_lfs := List.mem_of_getElem? (i := 24) rfl
theorem lf_1_149 : (1, 149, 1, 23, 0, 0) ∈ aj_lfs := List.mem_of_getElem? (i := 25) rfl
theorem lf_1_152 : (1, 152, 1, 8, 0, 0) ∈ aj_lfs := List.mem_of_getElem? (i := 26) rfl
theorem lf_1_155 : (1, 155, 1, 11, 0, 0) ∈ aj_lfs := List.mem_of_getElem? (i := 27) rfl
theorem lf_1_158 : (1, 158, 1, 12, 0, 0) ∈ aj_lfs := List.mem_of_getElem? (i := 28) rfl
theorem lf_1_161 : (1, 161, 1, 15, 0, 0) ∈ aj_lfs := List.mem_of_getElem? (i := 29) rfl
theorem lf_1_167 : (1, 167, 1, 13, 0, 0) ∈ aj_lfs := List.mem_of_getElem? (i := 30) rfl
theorem lf_1_170 : (1, 170, 1, 14, 0, 0) ∈ aj_lfs := List.mem_of_getElem? (i := 31) rfl
theorem lf_2_9 : (2, 9, 2, 0, 4, 1) ∈ aj_lfs := List.mem_of_getElem? (i := 32) rfl
theorem lf_2_15 : (2, 15, 2, 1, 0, 0) ∈ aj_lfs := List.mem_of_getElem? (i := 33) rfl
theorem lf_3_9 : (3, 9, 3, 0, 0, 0) ∈ aj_lfs := List.mem_of_getElem? (i := 34) rfl
theorem lf_3_15 : (3, 15, 3, 1, 0, 0) ∈ aj_lfs := List.mem_of_getElem? (i := 35) rfl
theorem lf_4_11 : (4, 11, 4, 2, 4, 1) ∈ aj_lfs := List.mem_of_getElem? (i := 36) rfl
theorem lf_4_17 : (4, 17, 4, 3, 4, 1) ∈ aj_lfs := List.mem_of_getElem? (i := 37) rfl
theorem lf_4_21 : (4, 21, 4, 4, 4, 1) ∈ aj_lfs := List.mem_of_getElem? (i := 38) rfl
theorem lf_4_24 : (4, 24, 4, 5, 0, 0) ∈ aj_lfs := List.mem_of_getElem? (i := 39) rfl
theorem lf_4_28 : (4, 28, 4, 6, 3, 0) ∈ aj_lfs := List.mem_of_getElem? (i := 40) rfl
theorem lf_4_32 : (4, 32, 4, 7, 3, 0) ∈ aj_lfs := List.mem_of_getElem? (i := 41) rfl
theorem lf_4_35 : (4, 35, 4, 8, 0, 0) ∈ aj_lfs := List.mem_of_getElem? (i := 42) rfl
theorem lf_4_38 : (4, 38, 4, 9, 0, 0) ∈ aj_lfs := List.mem_of_getElem? (i := 43) rfl
theorem lf_4_41 : (4, 41, 4, 10, 0, 0) ∈ aj_lfs := List.mem_of_getElem? (i := 44) rfl
theorem lf_4_44 : (4, 44, 4, 12, 0, 0) ∈ aj_lfs := List.mem_of_getElem? (i := 45) rfl
theorem lf_4_47 : (4, 47, 4, 13, 0, 0) ∈ aj_lfs := List.mem_of_getElem? (i := 46) rfl
theorem lf_4_50 : (4, 50, 4, 14, 0, 0) ∈ aj_lfs := List.mem_of_getElem? (i := 47) rfl
theorem lf_4_53 : (4, 53, 4, 15, 0, 0) ∈ aj_lfs := List.mem_of_getElem? (i := 48) rfl
theorem lf_4_56 : (4, 56, 4, 0, 4, 1) ∈ aj_lfs := List.mem_of_getElem? (i := 49) rfl
theorem lf_4_60 : (4, 60, 4, 1, 4, 1) ∈ aj_lfs := List.mem_of_getElem? (i := 50) rfl
theorem lf_4_67 : (4, 67, 4, 11, 4, 0) ∈ aj_lfs := List.mem_of_getElem? (i := 51) rfl
theorem lf_5_9 : (5, 9, 5, 0, 4, 1) ∈ aj_lfs := List.mem_of_getElem? (i := 52) rfl
theorem lf_5_18 : (5, 18, 5, 1, 4, 1) ∈ aj_lfs := List.mem_of_getElem? (i := 53) rfl
theorem lf_5_27 : (5, 27, 5, 2, 4, 1) ∈ aj_lfs := List.mem_of_getElem? (i := 54) rfl
theorem lf_5_31 : (5, 31, 3, 1, 0, 2) ∈ aj_lfs := List.mem_of_getElem? (i := 55) rfl
theorem lf_5_55 : (5, 55, 3, 0, 0, 2) ∈ aj_lfs := List.mem_of_getElem? (i := 56) rfl
theorem lf_5_58 : (5, 58, 4, 10, 0, 2) ∈ aj_lfs := List.mem_of_getElem? (i := 57) rfl
theorem lf_5_61 : (5, 61, 4, 2, 4, 2) ∈ aj_lfs := List.mem_of_getElem? (i := 58) rfl
theorem lf_5_65 : (5, 65, 9, 0, 4, 2) ∈ aj_lfs := List.mem_of_getElem? (i := 59) rfl
theorem lf_5_77 : (5, 77, 7, 1, 0, 2) ∈ aj_lfs := List.mem_of_getElem? (i := 60) rfl
theorem lf_5_85 : (5, 85, 9, 5, 0, 2) ∈ aj_lfs := List.mem_of_getElem? (i := 61) rfl
theorem lf_5_91 : (5, 91, 4, 8, 0, 2) ∈ aj_lfs := List.mem_of_getElem? (i := 62) rfl
theorem lf_5_94 : (5, 94, 4, 9, 0, 2) ∈ aj_lfs := List.mem_of_getElem? (i := 63) rfl
theorem lf_5_116 : (5, 116, 9, 4, 0, 2) ∈ aj_lfs := List.mem_of_getElem? (i := 64) rfl
theorem lf_5_119 : (5, 119, 9, 2, 4, 2) ∈ aj_lfs := List.mem_of_getElem? (i := 65) rfl
theorem lf_5_123 : (5, 123, 9, 1, 4, 2) ∈ aj_lfs := List.mem_of_getElem? (i := 66) rfl
theorem lf_5_126 : (5, 126, 9, 3, 4, 2) ∈ aj_lfs := List.mem_of_getElem? (i := 67) rfl
theorem lf_6_11 : (6, 11, 6, 0, 4, 1) ∈ aj_lfs := List.mem_of_getElem? (i := 68) rfl
theorem lf_6_17 : (6, 17, 6, 1, 0, 0) ∈ aj_lfs := List.mem_of_getElem? (i := 69) rfl
theorem lf_7_9 : (7, 9, 7, 1, 0, 0) ∈ aj_lfs := List.mem_of_getElem? (i := 70) rfl
theorem lf_7_15 : (7, 15, 7, 2, 0, 0) ∈ aj_lfs := List.mem_of_getElem? (i := 71) rfl
theorem lf_7_18 : (7, 18, 7, 3, 0, 0) ∈ aj_lfs := List.mem_of_getElem? (i := 72) rfl
theorem lf_7_21 : (7, 21, 7, 4, 0, 0) ∈ aj_lfs := List.mem_of_getElem? (i := 73) rfl
theorem lf_7_24 : (7, 24, 7, 5, 0, 0) ∈ aj_lfs := List.mem_of_getElem? (i := 74) rfl
theorem lf_7_27 : (7, 27, 7, 6, 0, 0) ∈ aj_lfs := List.mem_of_getElem? (i := 75) rfl
theorem lf_7_30 : (7, 30, 7, 0, 4, 1) ∈ aj_lfs := List.mem_of_getElem? (i := 76) rfl
theorem lf_8_9 : (8, 9, 8, 0, 4, 1) ∈ aj_lfs := List.mem_of_getElem? (i := 77) rfl
theorem lf_8_15 : (8, 15, 8, 1, 4, 1) ∈ aj_lfs := List.mem_of_getElem? (i := 78) rfl
theorem lf_8_18 : (8, 18, 8, 2, 4, 1) ∈ aj_lfs := List.mem_of_getElem? (i := 79) rfl
theorem lf_8_22 : (8, 22, 8, 3, 0, 0) ∈ aj_lfs := List.mem_of_getElem? (i := 80) rfl
theorem lf_9_11 : (9, 11, 9, 0, 4, 1) ∈ aj_lfs := List.mem_of_getElem? (i := 81) rfl
theorem lf_9_17 : (9, 17, 9, 1, 4, 1) ∈ aj_lfs := List.mem_of_getElem? (i := 82) rfl
theorem lf_9_21 : (9, 21, 9, 2, 4, 1) ∈ aj_lfs := List.mem_of_getElem? (i := 83) rfl
theorem lf_9_24 : (9, 24, 9, 3, 4, 1) ∈ aj_lfs := List.mem_of_getElem? (i := 84) rfl
theorem lf_9_28 : (9, 28, 9, 4, 0, 0) ∈ aj_lfs := List.mem_of_getElem? (i := 85) rfl
theorem lf_9_32 : (9, 32, 9, 5, 0, 0) ∈ aj_lfs := List.mem_of_getElem? (i := 86) rfl
theorem lf_10_9 : (10, 9, 10, 2, 4, 1) ∈ aj_lfs := List.mem_of_getElem? (i := 87) rfl
theorem lf_10_15 : (10, 15, 10, 3, 0, 0) ∈ aj_lfs := List.mem_of_getElem? (i := 88) rfl
theorem lf_10_19 : (10, 19, 10, 4, 3, 0) ∈ aj_lfs := List.mem_of_getElem? (i := 89) rfl
theorem lf_10_23 : (10, 23, 10, 5, 3, 0) ∈ aj_lfs := List.mem_of_getElem? (i := 90) rfl
theorem lf_10_26 : (10, 26, 10, 0, 4, 1) ∈ aj_lfs := List.mem_of_getElem? (i := 91) rfl
theorem lf_10_30 : (10, 30, 10, 1, 4, 1) ∈ aj_lfs := List.mem_of_getElem? (i := 92) rfl
def aj_lms : List (Nat × Nat × Nat × Nat × Nat × Nat × Nat) := [(0, 9, 110, 2, 6, 0, 0), (0, 18, 80, 2, 2, 0, 1), (0, 25, 102, 2, 5, 1, 0), (0, 34, 154, 2, 10, 2, 0), (0, 41, 113, 0, 6, 0, 0), (0, 45, 112, 0, 6, 1, 0), (0, 49, 132, 0, 8, 3, 0), (0, 55, 114, 0, 6, 0, 0), (0, 58, 155, 0, 10, 2, 0), (0, 62, 104, 0, 5, 1, 0), (0, 66, 103, 0, 5, 0, 0), (0, 69, 111, 0, 6, 0, 0), (0, 72, 130, 0, 8, 0, 0), (0, 75, 133, 0, 8, 1, 0), (0, 81, 136, 0, 8, 1, 0), (0, 85, 135, 0, 8, 1, 0), (0, 88, 81, 0, 2, 0, 0), (0, 91, 82, 0, 2, 1, 0), (0, 94, 83, 0, 2, 2, 0), (0, 98, 85, 0, 2, 2, 0), (0, 102, 84, 0, 2, 1, 0), (1, 67, 21, 0, 1, 1, 0), (1, 76, 25, 0, 1, 2, 0), (1, 80, 27, 0, 1, 2, 0), (1, 84, 28, 0, 1, 3, 0), (1, 88, 29, 0, 1, 1, 0), (1, 92, 30, 0, 1, 2, 0), (1, 95, 32, 0, 1, 3, 0), (1, 99, 26, 0, 1, 2, 0), (1, 107, 33, 0, 1, 3, 0), (1, 110, 31, 0, 1, 3, 0), (1, 114, 38, 0, 1, 0, 0), (1, 121, 34, 0, 1, 1, 0), (1, 125, 35, 0, 1, 2, 0), (1, 128, 36, 0, 1, 1, 0), (1, 131, 37, 0, 1, 4, 0), (1, 136, 39, 0, 1, 1, 0), (1, 139, 41, 0, 1, 2, 0), (1, 164, 43, 1, 1, 1, 0), (1, 173, 47, 0, 1, 0, 0), (1, 177, 48, 0, 1, 2, 0), (1, 180, 42, 0, 1, 2, 0), (1, 184, 44, 0, 1, 0, 0), (1, 187, 46, 0, 1, 1, 0), (1, 190, 45, 0, 1, 0, 0), (1, 193, 51, 0, 1, 1, 0), (1, 196, 52, 0, 1, 2, 0), (1, 199, 53, 0, 1, 2, 0), (1, 202, 50, 0, 1, 2, 0), (1, 207, 55, 0, 1, 4, 0), (1, 211, 56, 1, 1, 1, 0), (1, 215, 57, 0, 1, 3, 0), (1, 219, 54, 0, 1, 2, 0), (1, 222, 58, 0, 1, 2, 0), (1, 227, 61, 0, 1, 2, 0), (1, 232, 60, 0, 1, 2, 0), (1, 235, 62, 0, 1, 1, 0), (1, 238, 63, 0, 1, 1, 0), (1, 241, 64, 0, 1, 1, 0), (1, 244, 49, 0, 1, 0, 0), (1, 247, 59, 0, 1, 0, 0), (1, 250, 65, 0, 1, 0, 0), (1, 253, 66, 0, 1, 0, 0), (1, 256, 22, 0, 1, 2, 0), (1, 261, 75, 0, 1, 1, 0), (4, 64, 138, 2, 9, 1, 0), (4, 71, 93, 0, 4, 0, 0), (4, 74, 94, 0, 4, 0, 0), (4, 78, 100, 0, 4, 0, 0), (4, 81, 101, 0, 4, 0, 0), (4, 84, 90, 0, 3, 2, 0), (4, 90, 81, 0, 2, 0, 0), (4, 96, 95, 0, 4, 1, 0), (4, 100, 96, 0, 4, 0, 0), (4, 103, 86, 0, 2, 2, 0), (4, 107, 97, 0, 4, 0, 0), (4, 111, 99, 0, 4, 0, 0), (4, 115, 141, 0, 9, 1, 0), (4, 118, 98, 0, 4, 0, 0), (4, 123, 142, 0, 9, 1, 0), (4, 127, 117, 0, 7, 0, 0), (4, 132, 118, 0, 7, 4, 0), (4, 136, 139, 0, 9, 0, 0), (4, 142, 140, 0, 9, 0, 0), (4, 145, 143, 0, 9, 0, 0), (5, 17, 88, 2, 3, 0, 1), (5, 24, 91, 2, 4, 2, 0), (5, 35, 89, 0, 3, 0, 0), (5, 38, 92, 0, 4, 0, 0), (5, 42, 105, 0, 5, 0, 0), (5, 45, 106, 0, 5, 0, 0), (5, 48, 107, 0, 5, 0, 0), (5, 51, 108, 0, 5, 1, 0), (5, 71, 124, 0, 7, 0, 0), (5, 80, 90, 0, 3, 2, 0), (5, 84, 144, 0, 9, 0, 0), (5, 88, 150, 0, 9, 0, 0), (5, 97, 153, 0, 9, 2, 0), (5, 100, 114, 0, 6, 0, 0), (5, 105, 113, 0, 6, 0, 0), (5, 108, 112, 0, 6, 1, 0), (5, 112, 109, 0, 5, 2, 0), (5, 130, 87, 0, 2, 2, 0), (5, 136, 132, 0, 8, 3, 0), (6, 21, 129, 2, 8, 0, 1), (6, 22, 131, 0, 8, 0, 0), (7, 35, 119, 1, 7, 1, 0), (7, 39, 86, 0, 2, 2, 0), (7, 45, 121, 0, 7, 0, 0), (7, 49, 120, 0, 7, 0, 0), (7, 59, 125, 0, 7, 0, 0), (7, 63, 126, 0, 7, 0, 0), (7, 66, 122, 0, 7, 0, 0), (7, 70, 127, 0, 7, 1, 0), (7, 74, 17, 1, 0, 1, 1), (7, 78, 123, 0, 7, 2, 0), (7, 81, 128, 1, 7, 1, 0), (8, 26, 137, 1, 8, 2, 0), (9, 35, 115, 2, 7, 1, 0), (9, 38, 116, 0, 7, 0, 0), (9, 41, 18, 1, 0, 1, 1), (9, 45, 117, 0, 7, 0, 0), (9, 49, 120, 0, 7, 0, 0), (9, 55, 145, 0, 9, 0, 0), (9, 58, 147, 0, 9, 1, 0), (9, 62, 148, 0, 9, 1, 0), (9, 65, 149, 0, 9, 1, 0), (9, 69, 122, 0, 7, 0, 0), (9, 73, 123, 0, 7, 2, 0), (9, 77, 121, 0, 7, 0, 0), (9, 80, 146, 0, 9, 1, 0), (9, 91, 151, 0, 9, 0, 0), (9, 94, 152, 0, 9, 0, 0), (10, 40, 166, 0, 10, 0, 0), (10, 44, 167, 0, 10, 1, 0), (10, 48, 84, 0, 2, 1, 0), (10, 54, 172, 0, 10, 1, 0), (10, 58, 178, 0, 10, 1, 0), (10, 61, 81, 0, 2, 0, 0), (10, 64, 130, 0, 8, 0, 0), (10, 72, 134, 0, 8, 1, 0), (10, 75, 158, 0, 10, 2, 0), (10, 79, 163, 1, 10, 2, 0), (10, 82, 160, 0, 10, 1, 0), (10, 86, 161, 0, 10, 1, 0), (10, 89, 164, 1, 10, 1, 0), (10, 92, 156, 0, 10, 1, 0), (10, 95, 162, 0, 10, 0, 0), (10, 98, 112, 0, 6, 1, 0), (10, 104, 165, 0, 10, 1, 0), (10, 107, 168, 0, 10, 2, 0), (10, 111, 157, 0, 10, 2, 0), (10, 114, 133, 0, 8, 1, 0), (10, 117, 85, 0, 2, 2, 0), (10, 121, 169, 0, 10, 1, 0), (10, 125, 170, 0, 10, 2, 0), (10, 132, 173, 0, 10, 1, 0), (10, 136, 174, 0, 10, 1, 0), (10, 139, 176, 0, 10, 1, 0), (10, 142, 177, 0, 10, 2, 0), (10, 147, 171, 0, 10, 3, 0), (10, 151, 159, 0, 10, 2, 0), (10, 155, 175, 0, 10, 2, 0), (10, 162, 179, 0, 10, 2, 0), (10, 165, 135, 0, 8, 1, 0), (11, 9, 0, 2, 0, 0, 0), (11, 12, 19, 2, 1, 0, 0), (11, 13, 1, 0, 0, 0, 0), (11, 17, 20, 0, 1, 0, 0), (11, 20, 2, 0, 0, 4, 0), (11, 24, 23, 0, 1, 4, 0), (11, 25, 3, 0, 0, 0, 0), (11, 28, 24, 0, 1, 0, 0), (11, 29, 4, 0, 0, 2, 0), (11, 33, 40, 0, 1, 2, 0), (11, 34, 5, 0, 0, 0, 0), (11, 37, 67, 0, 1, 0, 0), (11, 38, 6, 0, 0, 0, 0), (11, 41, 68, 0, 1, 0, 0), (11, 42, 7, 0, 0, 0, 0), (11, 45, 69, 0, 1, 0, 0), (11, 46, 8, 0, 0, 1, 0), (11, 50, 70, 0, 1, 1, 0), (11, 51, 9, 0, 0, 2, 0), (11, 54, 71, 0, 1, 2, 0), (11, 55, 10, 0, 0, 2, 0), (11, 59, 72, 0, 1, 2, 0), (11, 60, 11, 0, 0, 2, 0), (11, 63, 73, 0, 1, 2, 0), (11, 64, 12, 0, 0, 0, 0), (11, 67, 74, 0, 1, 0, 0), (11, 68, 13, 0, 0, 1, 0), (11, 71, 76, 0, 1, 1, 0), (11, 72, 14, 0, 0, 2, 0), (11, 76, 77, 0, 1, 2, 0), (11, 77, 15, 0, 0, 2, 0), (11, 81, 78, 0, 1, 2, 0), (11, 82, 16, 0, 0, 1, 0), (11, 86, 79, 0, 1, 1, 0)]
theorem lm_0_9 : (0, 9, 110, 2, 6, 0, 0) ∈ aj_lms := List.mem_of_getElem? (i := 0) rfl
theorem lm_0_18 : (0, 18, 80, 2, 2, 0, 1) ∈ aj_lms := List.mem_of_getElem? (i := 1) rfl
theorem lm_0_25 : (0, 25, 102, 2, 5, 1, 0) ∈ aj_lms := List.mem_of_getElem? (i := 2) rfl
theorem lm_0_34 : (0, 34, 154, 2, 10, 2, 0) ∈ aj_lms := List.mem_of_getElem? (i := 3) rfl
theorem lm_0_41 : (0, 41, 113, 0, 6, 0, 0) ∈ aj_lms := List.mem_of_getElem? (i := 4) rfl
theorem lm_0_45 : (0, 45, 112, 0, 6, 1, 0) ∈ aj_lms := List.mem_of_getElem? (i := 5) rfl
theorem lm_0_49 : (0, 49, 132, 0, 8, 3, 0) ∈ aj_lms := List.mem_of_getElem? (i := 6) rfl
theorem lm_0_55 : (0, 55, 114, 0, 6, 0, 0) ∈ aj_lms := List.mem_of_getElem? (i := 7) rfl
theorem lm_0_58 : (0, 58, 155, 0, 10, 2, 0) ∈ aj_lms := List.mem_of_getElem? (i := 8) rfl
theorem lm_0_62 : (0, 62, 104, 0, 5, 1, 0) ∈ aj_lms := List.mem_of_getElem? (i := 9) rfl
theorem lm_0_66 : (0, 66, 103, 0, 5, 0, 0) ∈ aj_lms := List.mem_of_getElem? (i := 10) rfl
theorem lm_0_69 : (0, 69, 111, 0, 6, 0, 0) ∈ aj_lms := List.mem_of_getElem? (i := 11) rfl
theorem lm_0_72 : (0, 72, 130, 0, 8, 0, 0) ∈ aj_lms := List.mem_of_getElem? (i := 12) rfl
theorem lm_0_75 : (0, 75, 133, 0, 8, 1, 0) ∈ aj_lms := List.mem_of_getElem? (i := 13) rfl
theorem lm_0_81 : (0, 81, 136, 0, 8, 1, 0) ∈ aj_lms := List.mem_of_getElem? (i := 14) rfl
theorem lm_0_85 : (0, 85, 135, 0, 8, 1, 0) ∈ aj_lms := List.mem_of_getElem? (i := 15) rfl
theorem lm_0_88 : (0, 88, 81, 0, 2, 0, 0) ∈ aj_lms := List.mem_of_getElem? (i := 16) rfl
theorem lm_0_91 : (0, 91, 82, 0, 2, 1, 0) ∈ aj_lms := List.mem_of_getElem? (i := 17) rfl
theorem lm_0_94 : (0, 94, 83, 0, 2, 2, 0) ∈ aj_lms := List.mem_of_getElem? (i := 18) rfl
theorem lm_0_98 : (0, 98, 85, 0, 2, 2, 0) ∈ aj_lms := List.mem_of_getElem? (i := 19) rfl
theorem lm_0_102 : (0, 102, 84, 0, 2, 1, 0) ∈ aj_lms := List.mem_of_getElem? (i := 20) rfl
theorem lm_1_67 : (1, 67, 21, 0, 1, 1, 0) ∈ aj_lms := List.mem_of_getElem? (i := 21) rfl
theorem lm_1_76 : (1, 76, 25, 0, 1, 2, 0) ∈ aj_lms := List.mem_of_getElem? (i := 22) rfl
theorem lm_1_80 : (1, 80, 27, 0, 1, 2, 0) ∈ aj_lms := List.mem_of_getElem? (i := 23) rfl
theorem lm_1_84 : (1, 84, 28, 0, 1, 3, 0) ∈ aj_lms := List.mem_of_getElem? (i := 24) rfl
theorem lm_1_88 : (1, 88, 29, 0, 1, 1, 0) ∈ aj_lms := List.mem_of_getElem? (i := 25) rfl
theorem lm_1_92 : (1, 92, 30, 0, 1, 2, 0) ∈ aj_lms := List.mem_of_getElem? (i := 26) rfl
theorem lm_1_95 : (1, 95, 32, 0, 1, 3, 0) ∈ aj_lms := List.mem_of_getElem? (i := 27) rfl
theorem lm_1_99 : (1, 99, 26, 0, 1, 2, 0) ∈ aj_lms := List.mem_of_getElem? (i := 28) rfl
theorem lm_1_107 : (1, 107, 33, 0, 1, 3, 0) ∈ aj_lms := List.mem_of_getElem? (i := 29) rfl
theorem lm_1_110 : (1, 110, 31, 0, 1, 3, 0) ∈ aj_lms := List.mem_of_getElem? (i := 30) rfl
theorem lm_1_114 : (1, 114, 38, 0, 1, 0, 0) ∈ aj_lms := List.mem_of_getElem? (i := 31) rfl
theorem lm_1_121 : (1, 121, 34, 0, 1, 1, 0) ∈ aj_lms := List.mem_of_getElem? (i := 32) rfl
theorem lm_1_125 : (1, 125, 35, 0, 1, 2, 0) ∈ aj_lms := List.mem_of_getElem? (i := 33) rfl
theorem lm_1_128 : (1, 128, 36, 0, 1, 1, 0) ∈ aj_lms := List.mem_of_getElem? (i := 34) rfl
theorem lm_1_131 : (1, 131, 37, 0, 1, 4, 0) ∈ aj_lms := List.mem_of_getElem? (i := 35) rfl
theorem lm_1_136 : (1, 136, 39, 0, 1, 1, 0) ∈ aj_lms := List.mem_of_getElem? (i := 36) rfl
theorem lm_1_139 : (1, 139, 41, 0, 1, 2, 0) ∈ aj_lms := List.mem_of_getElem? (i := 37) rfl
theorem lm_1_164 : (1, 164, 43, 1, 1, 1, 0) ∈ aj_lms := List.mem_of_getElem? (i := 38) rfl
theorem lm_1_173 : (1, 173, 47, 0, 1, 0, 0) ∈ aj_lms := List.mem_of_getElem? (i := 39) rfl
theorem lm_1_177 : (1, 177, 48, 0, 1, 2, 0) ∈ aj_lms := List.mem_of_getElem? (i := 40) rfl
theorem lm_1_180 : (1, 180, 42, 0, 1, 2, 0) ∈ aj_lms := List.mem_of_getElem? (i := 41) rfl
theorem lm_1_184 : (1, 184, 44, 0, 1, 0, 0) ∈ aj_lms := List.mem_of_getElem? (i := 42) rfl
theorem lm_1_187 : (1, 187, 46, 0, 1, 1, 0) ∈ aj_lms := List.mem_of_getElem? (i := 43) rfl
theorem lm_1_190 : (1, 190, 45, 0, 1, 0, 0) ∈ aj_lms := List.mem_of_getElem? (i := 44) rfl
theorem lm_1_193 : (1, 193, 51, 0, 1, 1, 0) ∈ aj_lms := List.mem_of_getElem? (i := 45) rfl
theorem lm_1_196 : (1, 196, 52, 0, 1, 2, 0) ∈ aj_lms := List.mem_of_getElem? (i := 46) rfl
theorem lm_1_199 : (1, 199, 53, 0, 1, 2, 0) ∈ aj_lms := List.mem_of_getElem? (i := 47) rfl
theorem lm_1_202 : (1, 202, 50, 0, 1, 2, 0) ∈ aj_lms := List.mem_of_getElem? (i := 48) rfl
theorem lm_1_207 : (1, 207, 55, 0, 1, 4, 0) ∈ aj_lms := List.mem_of_getElem? (i := 49) rfl
theorem lm_1_211 : (1, 211, 56, 1, 1, 1, 0) ∈ aj_lms := List.mem_of_getElem? (i := 50) rfl
theorem lm_1_215 : (1, 215, 57, 0, 1, 3, 0) ∈ aj_lms := List.mem_of_getElem? (i := 51) rfl
theorem lm_1_219 : (1, 219, 54, 0, 1, 2, 0) ∈ aj_lms := List.mem_of_getElem? (i := 52) rfl
theorem lm_1_222 : (1, 222, 58, 0, 1, 2, 0) ∈ aj_lms := List.mem_of_getElem? (i := 53) rfl
theorem lm_1_227 : (1, 227, 61, 0, 1, 2, 0) ∈ aj_lms := List.mem_of_getElem? (i := 54) rfl
theorem lm_1_232 : (1, 232, 60, 0, 1, 2, 0) ∈ aj_lms := List.mem_of_getElem? (i := 55) rfl
theorem lm_1_235 : (1, 235, 62, 0, 1, 1, 0) ∈ aj_lms := List.mem_of_getElem? (i := 56) rfl
theorem lm_1_238 : (1, 238, 63, 0, 1, 1, 0) ∈ aj_lms := List.mem_of_getElem? (i := 57) rfl
theorem lm_1_241 : (1, 241, 64, 0, 1, 1, 0) ∈ aj_lms := List.mem_of_getElem? (i := 58) rfl
theorem lm_1_244 : (1, 244, 49, 0, 1, 0, 0) ∈ aj_lms := List.mem_of_getElem? (i := 59) rfl
theorem lm_1_247 : (1, 247, 59, 0, 1, 0, 0) ∈ aj_lms := List.mem_of_getElem? (i := 60) rfl
theorem lm_1_250 : (1, 250, 65, 0, 1, 0, 0) ∈ aj_lms := List.mem_of_getElem? (i := 61) rfl
theorem lm_1_253 : (1, 253, 66, 0, 1, 0, 0) ∈ aj_lms := List.mem_of_getElem? (i := 62) rfl
theorem lm_1_256 : (1, 256, 22, 0, 1, 2, 0) ∈ aj_lms := List.mem_of_getElem? (i := 63) rfl
theorem lm_1_261 : (1, 261, 75, 0, 1, 1, 0) ∈ aj_lms := List.mem_of_getElem? (i := 64) rfl
theorem lm_4_64 : (4, 64, 138, 2, 9, 1, 0) ∈ aj_lms := List.mem_of_getElem? (i := 65) rfl
theorem lm_4_71 : (4, 71, 93, 0, 4, 0, 0) ∈ aj_lms := List.mem_of_getElem? (i := 66) rfl
theorem lm_4_74 : (4, 74, 94, 0, 4, 0, 0) ∈ aj_lms := List.mem_of_getElem? (i := 67) rfl
theorem lm_4_78 : (4, 78, 100, 0, 4, 0, 0) ∈ aj_lms := List.mem_of_getElem? (i := 68) rfl
theorem lm_4_81 : (4, 81, 101, 0, 4, 0, 0) ∈ aj_lms := List.mem_of_getElem? (i := 69) rfl
theorem lm_4_84 : (4, 84, 90, 0, 3, 2, 0) ∈ aj_lms := List.mem_of_getElem? (i := 70) rfl
theorem lm_4_90 : (4, 90, 81, 0, 2, 0, 0) ∈ aj_lms := List.mem_of_getElem? (i := 71) rfl
theorem lm_4_96 : (4, 96, 95, 0, 4, 1, 0) ∈ aj_lms := List.mem_of_getElem? (i := 72) rfl
theorem lm_4_100 : (4, 100, 96, 0, 4, 0, 0) ∈ aj_lms := List.mem_of_getElem? (i := 73) rfl
theorem lm_4_103 : (4, 103, 86, 0, 2, 2, 0) ∈ aj_lms := List.mem_of_getElem? (i := 74) rfl
theorem lm_4_107 : (4, 107, 97, 0, 4, 0, 0) ∈ aj_lms := List.mem_of_getElem? (i := 75) rfl
theorem lm_4_111 : (4, 111, 99, 0, 4, 0, 0) ∈ aj_lms := List.mem_of_getElem? (i := 76) rfl
theorem lm_4_115 : (4, 115, 141, 0, 9, 1, 0) ∈ aj_lms := List.mem_of_getElem? (i := 77) rfl
theorem lm_4_118 : (4, 118, 98, 0, 4, 0, 0) ∈ aj_lms := List.mem_of_getElem? (i := 78) rfl
theorem lm_4_123 : (4, 123, 142, 0, 9, 1, 0) ∈ aj_lms := List.mem_of_getElem? (i := 79) rfl
theorem lm_4_127 : (4, 127, 117, 0, 7, 0, 0) ∈ aj_lms := List.mem_of_getElem? (i := 80) rfl
theorem lm_4_132 : (4, 132, 118, 0, 7, 4, 0) ∈ aj_lms := List.mem_of_getElem? (i := 81) rfl
theorem lm_4_136 : (4, 136, 139, 0, 9, 0, 0) ∈ aj_lms := List.mem_of_getElem? (i := 82) rfl
theorem lm_4_142 : (4, 142, 140, 0, 9, 0, 0) ∈ aj_lms := List.mem_of_getElem? (i := 83) rfl
theorem lm_4_145 : (4, 145, 143, 0, 9, 0, 0) ∈ aj_lms := List.mem_of_getElem? (i := 84) rfl
theorem lm_5_17 : (5, 17, 88, 2, 3, 0, 1) ∈ aj_lms := List.mem_of_getElem? (i := 85) rfl
theorem lm_5_24 : (5, 24, 91, 2, 4, 2, 0) ∈ aj_lms := List.mem_of_getElem? (i := 86) rfl
theorem lm_5_35 : (5, 35, 89, 0, 3, 0, 0) ∈ aj_lms := List.mem_of_getElem? (i := 87) rfl
theorem lm_5_38 : (5, 38, 92, 0, 4, 0, 0) ∈ aj_lms := List.mem_of_getElem? (i := 88) rfl
theorem lm_5_42 : (5, 42, 105, 0, 5, 0, 0) ∈ aj_lms := List.mem_of_getElem? (i := 89) rfl
theorem lm_5_45 : (5, 45, 106, 0, 5, 0, 0) ∈ aj_lms := List.mem_of_getElem? (i := 90) rfl
theorem lm_5_48 : (5, 48, 107, 0, 5, 0, 0) ∈ aj_lms := List.mem_of_getElem? (i := 91) rfl
theorem lm_5_51 : (5, 51, 108, 0, 5, 1, 0) ∈ aj_lms := List.mem_of_getElem? (i := 92) rfl
theorem lm_5_71 : (5, 71, 124, 0, 7, 0, 0) ∈ aj_lms := List.mem_of_getElem? (i := 93) rfl
theorem lm_5_80 : (5, 80, 90, 0, 3, 2, 0) ∈ aj_lms := List.mem_of_getElem? (i := 94) rfl
theorem lm_5_84 : (5, 84, 144, 0, 9, 0, 0) ∈ aj_lms := List.mem_of_getElem? (i := 95) rfl
theorem lm_5_88 : (5, 88, 150, 0, 9, 0, 0) ∈ aj_lms := List.mem_of_getElem? (i := 96) rfl
theorem lm_5_97 : (5, 97, 153, 0, 9, 2, 0) ∈ aj_lms := List.mem_of_getElem? (i := 97) rfl
theorem lm_5_100 : (5, 100, 114, 0, 6, 0, 0) ∈ aj_lms := List.mem_of_getElem? (i := 98) rfl
theorem lm_5_105 : (5, 105, 113, 0, 6, 0, 0) ∈ aj_lms := List.mem_of_getElem? (i := 99) rfl
theorem lm_5_108 : (5, 108, 112, 0, 6, 1, 0) ∈ aj_lms := List.mem_of_getElem? (i := 100) rfl
theorem lm_5_112 : (5, 112, 109, 0, 5, 2, 0) ∈ aj_lms := List.mem_of_getElem? (i := 101) rfl
theorem lm_5_130 : (5, 130, 87, 0, 2, 2, 0) ∈ aj_lms := List.mem_of_getElem? (i := 102) rfl
theorem lm_5_136 : (5, 136, 132, 0, 8, 3, 0) ∈ aj_lms := List.mem_of_getElem? (i := 103) rfl
theorem lm_6_21 : (6, 21, 129, 2, 8, 0, 1) ∈ aj_lms := List.mem_of_getElem? (i := 104) rfl
theorem lm_6_22 : (6, 22, 131, 0, 8, 0, 0) ∈ aj_lms := List.mem_of_getElem? (i := 105) rfl
theorem lm_7_35 : (7, 35, 119, 1, 7, 1, 0) ∈ aj_lms := List.mem_of_getElem? (i := 106) rfl
theorem lm_7_39 : (7, 39, 86, 0, 2, 2, 0) ∈ aj_lms := List.mem_of_getElem? (i := 107) rfl
theorem lm_7_45 : (7, 45, 121, 0, 7, 0, 0) ∈ aj_lms := List.mem_of_getElem? (i := 108) rfl
theorem lm_7_49 : (7, 49, 120, 0, 7, 0, 0) ∈ aj_lms := List.mem_of_getElem? (i := 109) rfl
theorem lm_7_59 : (7, 59, 125, 0, 7, 0, 0) ∈ aj_lms := List.mem_of_getElem? (i := 110) rfl
theorem lm_7_63 : (7, 63, 126, 0, 7, 0, 0) ∈ aj_lms := List.mem_of_getElem? (i := 111) rfl
theorem lm_7_66 : (7, 66, 122, 0, 7, 0, 0) ∈ aj_lms := List.mem_of_getElem? (i := 112) rfl
theorem lm_7_70 : (7, 70, 127, 0, 7, 1, 0) ∈ aj_lms := List.mem_of_getElem? (i := 113) rfl
theorem lm_7_74 : (7, 74, 17, 1, 0, 1, 1) ∈ aj_lms := List.mem_of_getElem? (i := 114) rfl
theorem lm_7_78 : (7, 78, 123, 0, 7, 2, 0) ∈ aj_lms := List.mem_of_getElem? (i := 115) rfl
theorem lm_7_81 : (7, 81, 128, 1, 7, 1, 0) ∈ aj_lms := List.mem_of_getElem? (i := 116) rfl
theorem lm_8_26 : (8, 26, 137, 1, 8, 2, 0) ∈ aj_lms := List.mem_of_getElem? (i := 117) rfl
theorem lm_9_35 : (9, 35, 115, 2, 7, 1, 0) ∈ aj_lms := List.mem_of_getElem? (i := 118) rfl
theorem lm_9_38 : (9, 38, 116, 0, 7, 0, 0) ∈ aj_lms := List.mem_of_getElem? (i := 119) rfl
theorem lm_9_41 : (9, 41, 18, 1, 0, 1, 1) ∈ aj_lms := List.mem_of_getElem? (i := 120) rfl
theorem lm_9_45 : (9, 45, 117, 0, 7, 0, 0) ∈ aj_lms := List.mem_of_getElem? (i := 121) rfl
theorem lm_9_49 : (9, 49, 120, 0, 7, 0, 0) ∈ aj_lms := List.mem_of_getElem? (i := 122) rfl
theorem lm_9_55 : (9, 55, 145, 0, 9, 0, 0) ∈ aj_lms := List.mem_of_getElem? (i := 123) rfl
theorem lm_9_58 : (9, 58, 147, 0, 9, 1, 0) ∈ aj_lms := List.mem_of_getElem? (i := 124) rfl
theorem lm_9_62 : (9, 62, 148, 0, 9, 1, 0) ∈ aj_lms := List.mem_of_getElem? (i := 125) rfl
theorem lm_9_65 : (9, 65, 149, 0, 9, 1, 0) ∈ aj_lms := List.mem_of_getElem? (i := 126) rfl
theorem lm_9_69 : (9, 69, 122, 0, 7, 0, 0) ∈ aj_lms := List.mem_of_getElem? (i := 127) rfl
theorem lm_9_73 : (9, 73, 123, 0, 7, 2, 0) ∈ aj_lms := List.mem_of_getElem? (i := 128) rfl
theorem lm_9_77 : (9, 77, 121, 0, 7, 0, 0) ∈ aj_lms := List.mem_of_getElem? (i := 129) rfl
theorem lm_9_80 : (9, 80, 146, 0, 9, 1, 0) ∈ aj_lms := List.mem_of_getElem? (i := 130) rfl
theorem lm_9_91 : (9, 91, 151, 0, 9, 0, 0) ∈ aj_lms := List.mem_of_getElem? (i := 131) rfl
theorem lm_9_94 : (9, 94, 152, 0, 9, 0, 0) ∈ aj_lms := List.mem_of_getElem? (i := 132) rfl
theorem lm_10_40 : (10, 40, 166, 0, 10, 0, 0) ∈ aj_lms := List.mem_of_getElem? (i := 133) rfl
theorem lm_10_44 : (10, 44, 167, 0, 10, 1, 0) ∈ aj_lms := List.mem_of_getElem? (i := 134) rfl
theorem lm_10_48 : (10, 48, 84, 0, 2, 1, 0) ∈ aj_lms := List.mem_of_getElem? (i := 135) rfl
theorem lm_10_54 : (10, 54, 172, 0, 10, 1, 0) ∈ aj_lms := List.mem_of_getElem? (i := 136) rfl
theorem lm_10_58 : (10, 58, 178, 0, 10, 1, 0) ∈ aj_lms := List.mem_of_getElem? (i := 137) rfl
theorem lm_10_61 : (10, 61, 81, 0, 2, 0, 0) ∈ aj_lms := List.mem_of_getElem? (i := 138) rfl
theorem lm_10_64 : (10, 64, 130, 0, 8, 0, 0) ∈ aj_lms := List.mem_of_getElem? (i := 139) rfl
theorem lm_10_72 : (10, 72, 134, 0, 8, 1, 0) ∈ aj_lms := List.mem_of_getElem? (i := 140) rfl
theorem lm_10_75 : (10, 75, 158, 0, 10, 2, 0) ∈ aj_lms := List.mem_of_getElem? (i := 141) rfl
theorem lm_10_79 : (10, 79, 163, 1, 10, 2, 0) ∈ aj_lms := List.mem_of_getElem? (i := 142) rfl
theorem lm_10_82 : (10, 82, 160, 0, 10, 1, 0) ∈ aj_lms := List.mem_of_getElem? (i := 143) rfl
theorem lm_10_86 : (10, 86, 161, 0, 10, 1, 0) ∈ aj_lms := List.mem_of_getElem? (i := 144) rfl
theorem lm_10_89 : (10, 89, 164, 1, 10, 1, 0) ∈ aj_lms := List.mem_of_getElem? (i := 145) rfl
theorem lm_10_92 : (10, 92, 156, 0, 10, 1, 0) ∈ aj_lms := List.mem_of_getElem? (i := 146) rfl
theorem lm_10_95 : (10, 95, 162, 0, 10, 0, 0) ∈ aj_lms := List.mem_of_getElem? (i := 147) rfl
theorem lm_10_98 : (10, 98, 112, 0, 6, 1, 0) ∈ aj_lms := List.mem_of_getElem? (i := 148) rfl
theorem lm_10_104 : (10, 104, 165, 0, 10, 1, 0) ∈ aj_lms := List.mem_of_getElem? (i := 149) rfl
theorem lm_10_107 : (10, 107, 168, 0, 10, 2, 0) ∈ aj_lms := List.mem_of_getElem? (i := 150) rfl
theorem lm_10_111 : (10, 111, 157, 0, 10, 2, 0) ∈ aj_lms := List.mem_of_getElem? (i := 151) rfl
theorem lm_10_114 : (10, 114, 133, 0, 8, 1, 0) ∈ aj_lms := List.mem_of_getElem? (i := 152) rfl
theorem lm_10_117 : (10, 117, 85, 0, 2, 2, 0) ∈ aj_lms := List.mem_of_getElem? (i := 153) rfl
theorem lm_10_121 : (10, 121, 169, 0, 10, 1, 0) ∈ aj_lms := List.mem_of_getElem? (i := 154) rfl
theorem lm_10_125 : (10, 125, 170, 0, 10, 2, 0) ∈ aj_lms := List.mem_of_getElem? (i := 155) rfl
theorem lm_10_132 : (10, 132, 173, 0, 10, 1, 0) ∈ aj_lms := List.mem_of_getElem? (i := 156) rfl
theorem lm_10_136 : (10, 136, 174, 0, 10, 1, 0) ∈ aj_lms := List.mem_of_getElem? (i := 157) rfl
theorem lm_10_139 : (10, 139, 176, 0, 10, 1, 0) ∈ aj_lms := List.mem_of_getElem? (i := 158) rfl
theorem lm_10_142 : (10, 142, 177, 0, 10, 2, 0) ∈ aj_lms := List.mem_of_getElem? (i := 159) rfl
theorem lm_10_147 : (10, 147, 171, 0, 10, 3, 0) ∈ aj_lms := List.mem_of_getElem? (i := 160) rfl
theorem lm_10_151 : (10, 151, 159, 0, 10, 2, 0) ∈ aj_lms := List.mem_of_getElem? (i := 161) rfl
theorem lm_10_155 : (10, 155, 175, 0, 10, 2, 0) ∈ aj_lms := List.mem_of_getElem? (i := 162) rfl
theorem lm_10_162 : (10, 162, 179, 0, 10, 2, 0) ∈ aj_lms := List.mem_of_getElem? (i := 163) rfl
theorem lm_10_165 : (10, 165, 135, 0, 8, 1, 0) ∈ aj_lms := List.mem_of_getElem? (i := 164) rfl
theorem lm_11_9 : (11, 9, 0, 2, 0, 0, 0) ∈ aj_lms := List.mem_of_getElem? (i := 165) rfl
theorem lm_11_12 : (11, 12, 19, 2, 1, 0, 0) ∈ aj_lms := List.mem_of_getElem? (i := 166) rfl
theorem lm_11_13 : (11, 13, 1, 0, 0, 0, 0) ∈ aj_lms := List.mem_of_getElem? (i := 167) rfl
theorem lm_11_17 : (11, 17, 20, 0, 1, 0, 0) ∈ aj_lms := List.mem_of_getElem? (i := 168) rfl
theorem lm_11_20 : (11, 20, 2, 0, 0, 4, 0) ∈ aj_lms := List.mem_of_getElem? (i := 169) rfl
theorem lm_11_24 : (11, 24, 23, 0, 1, 4, 0) ∈ aj_lms := List.mem_of_getElem? (i := 170) rfl
theorem lm_11_25 : (11, 25, 3, 0, 0, 0, 0) ∈ aj_lms := List.mem_of_getElem? (i := 171) rfl
theorem lm_11_28 : (11, 28, 24, 0, 1, 0, 0) ∈ aj_lms := List.mem_of_getElem? (i := 172) rfl
theorem lm_11_29 : (11, 29, 4, 0, 0, 2, 0) ∈ aj_lms := List.mem_of_getElem? (i := 173) rfl
theorem lm_11_33 : (11, 33, 40, 0, 1, 2, 0) ∈ aj_lms := List.mem_of_getElem? (i := 174) rfl
theorem lm_11_34 : (11, 34, 5, 0, 0, 0, 0) ∈ aj_lms := List.mem_of_getElem? (i := 175) rfl
theorem lm_11_37 : (11, 37, 67, 0, 1, 0, 0) ∈ aj_lms := List.mem_of_getElem? (i := 176) rfl
theorem lm_11_38 : (11, 38, 6, 0, 0, 0, 0) ∈ aj_lms := List.mem_of_getElem? (i := 177) rfl
theorem lm_11_41 : (11, 41, 68, 0, 1, 0, 0) ∈ aj_lms := List.mem_of_getElem? (i := 178) rfl
theorem lm_11_42 : (11, 42, 7, 0, 0, 0, 0) ∈ aj_lms := List.mem_of_getElem? (i := 179) rfl
theorem lm_11_45 : (11, 45, 69, 0, 1, 0, 0) ∈ aj_lms := List.mem_of_getElem? (i := 180) rfl
theorem lm_11_46 : (11, 46, 8, 0, 0, 1, 0) ∈ aj_lms := List.mem_of_getElem? (i := 181) rfl
theorem lm_11_50 : (11, 50, 70, 0, 1, 1, 0) ∈ aj_lms := List.mem_of_getElem? (i := 182) rfl
theorem lm_11_51 : (11, 51, 9, 0, 0, 2, 0) ∈ aj_lms := List.mem_of_getElem? (i := 183) rfl
theorem lm_11_54 : (11, 54, 71, 0, 1, 2, 0) ∈ aj_lms := List.mem_of_getElem? (i := 184) rfl
theorem lm_11_55 : (11, 55, 10, 0, 0, 2, 0) ∈ aj_lms := List.mem_of_getElem? (i := 185) rfl
theorem lm_11_59 : (11, 59, 72, 0, 1, 2, 0) ∈ aj_lms := List.mem_of_getElem? (i := 186) rfl
theorem lm_11_60 : (11, 60, 11, 0, 0, 2, 0) ∈ aj_lms := List.mem_of_getElem? (i := 187) rfl
theorem lm_11_63 : (11, 63, 73, 0, 1, 2, 0) ∈ aj_lms := List.mem_of_getElem? (i := 188) rfl
theorem lm_11_64 : (11, 64, 12, 0, 0, 0, 0) ∈ aj_lms := List.mem_of_getElem? (i := 189) rfl
theorem lm_11_67 : (11, 67, 74, 0, 1, 0, 0) ∈ aj_lms := List.mem_of_getElem? (i := 190) rfl
theorem lm_11_68 : (11, 68, 13, 0, 0, 1, 0) ∈ aj_lms := List.mem_of_getElem? (i := 191) rfl
theorem lm_11_71 : (11, 71, 76, 0, 1, 1, 0) ∈ aj_lms := List.mem_of_getElem? (i := 192) rfl
theorem lm_11_72 : (11, 72, 14, 0, 0, 2, 0) ∈ aj_lms := List.mem_of_getElem? (i := 193) rfl
theorem lm_11_76 : (11, 76, 77, 0, 1, 2, 0) ∈ aj_lms := List.mem_of_getElem? (i := 194) rfl
theorem lm_11_77 : (11, 77, 15, 0, 0, 2, 0) ∈ aj_lms := List.mem_of_getElem? (i := 195) rfl
theorem lm_11_81 : (11, 81, 78, 0, 1, 2, 0) ∈ aj_lms := List.mem_of_getElem? (i := 196) rfl
theorem lm_11_82 : (11, 82, 16, 0, 0, 1, 0) ∈ aj_lms := List.mem_of_getElem? (i := 197) rfl
theorem lm_11_86 : (11, 86, 79, 0, 1, 1, 0) ∈ aj_lms := List.mem_of_getElem? (i := 198) rfl
def aj_lcs : List (Nat × Nat × Int32) := [(1, 98, 1937011827), (1, 103, 1937011555), (1, 104, 1937011578), (1, 105, 1668232756), (1, 106, 1937007471), (1, 118, 1836019574), (1, 119, 1953653099), (1, 120, 1937007212), (1, 135, 1835295092), (4, 110, 1953653099), (4, 114, 1937007212), (4, 121, 1836019574), (4, 122, 1835295092), (7, 34, 1937011578), (7, 58, 1668232756), (10, 129, 1836019574), (10, 130, 1953653099), (10, 131, 1937007212), (10, 146, 1937011827), (10, 154, 1937011555), (10, 158, 1937011578), (10, 159, 1668232756), (10, 160, 1937007471), (10, 161, 1835295092)]
theorem lc_1_98 : (1, 98, 1937011827) ∈ aj_lcs := List.mem_of_getElem? (i := 0) rfl
theorem lc_1_103 : (1, 103, 1937011555) ∈ aj_lcs := List.mem_of_getElem? (i := 1) rfl
theorem lc_1_104 : (1, 104, 1937011578) ∈ aj_lcs := List.mem_of_getElem? (i := 2) rfl
theorem lc_1_105 : (1, 105, 1668232756) ∈ aj_lcs := List.mem_of_getElem? (i := 3) rfl
theorem lc_1_106 : (1, 106, 1937007471) ∈ aj_lcs := List.mem_of_getElem? (i := 4) rfl
theorem lc_1_118 : (1, 118, 1836019574) ∈ aj_lcs := List.mem_of_getElem? (i := 5) rfl
theorem lc_1_119 : (1, 119, 1953653099) ∈ aj_lcs := List.mem_of_getElem? (i := 6) rfl
theorem lc_1_120 : (1, 120, 1937007212) ∈ aj_lcs := List.mem_of_getElem? (i := 7) rfl
theorem lc_1_135 : (1, 135, 1835295092) ∈ aj_lcs := List.mem_of_getElem? (i := 8) rfl
theorem lc_4_110 : (4, 110, 1953653099) ∈ aj_lcs := List.mem_of_getElem? (i := 9) rfl
theorem lc_4_114 : (4, 114, 1937007212) ∈ aj_lcs := List.mem_of_getElem? (i := 10) rfl
theorem lc_4_121 : (4, 121, 1836019574) ∈ aj_lcs := List.mem_of_getElem? (i := 11) rfl
theorem lc_4_122 : (4, 122, 1835295092) ∈ aj_lcs := List.mem_of_getElem? (i := 12) rfl
theorem lc_7_34 : (7, 34, 1937011578) ∈ aj_lcs := List.mem_of_getElem? (i := 13) rfl
theorem lc_7_58 : (7, 58, 1668232756) ∈ aj_lcs := List.mem_of_getElem? (i := 14) rfl
theorem lc_10_129 : (10, 129, 1836019574) ∈ aj_lcs := List.mem_of_getElem? (i := 15) rfl
theorem lc_10_130 : (10, 130, 1953653099) ∈ aj_lcs := List.mem_of_getElem? (i := 16) rfl
theorem lc_10_131 : (10, 131, 1937007212) ∈ aj_lcs := List.mem_of_getElem? (i := 17) rfl
theorem lc_10_146 : (10, 146, 1937011827) ∈ aj_lcs := List.mem_of_getElem? (i := 18) rfl
theorem lc_10_154 : (10, 154, 1937011555) ∈ aj_lcs := List.mem_of_getElem? (i := 19) rfl
theorem lc_10_158 : (10, 158, 1937011578) ∈ aj_lcs := List.mem_of_getElem? (i := 20) rfl
theorem lc_10_159 : (10, 159, 1668232756) ∈ aj_lcs := List.mem_of_getElem? (i := 21) rfl
theorem lc_10_160 : (10, 160, 1937007471) ∈ aj_lcs := List.mem_of_getElem? (i := 22) rfl
theorem lc_10_161 : (10, 161, 1835295092) ∈ aj_lcs := List.mem_of_getElem? (i := 23) rfl
def aj_lls : List (Nat × Nat × Int64) := [(0, 79, (-1)), (0, 106, 2147483647), (1, 74, 255), (1, 205, 2147483647), (1, 225, 16), (1, 230, 9), (1, 259, (-1)), (8, 30, (-1)), (9, 53, 16), (9, 83, 8), (11, 18, 4294967295)]
theorem ll_0_79 : (0, 79, (-1)) ∈ aj_lls := List.mem_of_getElem? (i := 0) rfl
theorem ll_0_106 : (0, 106, 2147483647) ∈ aj_lls := List.mem_of_getElem? (i := 1) rfl
theorem ll_1_74 : (1, 74, 255) ∈ aj_lls := List.mem_of_getElem? (i := 2) rfl
theorem ll_1_205 : (1, 205, 2147483647) ∈ aj_lls := List.mem_of_getElem? (i := 3) rfl
theorem ll_1_225 : (1, 225, 16) ∈ aj_lls := List.mem_of_getElem? (i := 4) rfl
theorem ll_1_230 : (1, 230, 9) ∈ aj_lls := List.mem_of_getElem? (i := 5) rfl
theorem ll_1_259 : (1, 259, (-1)) ∈ aj_lls := List.mem_of_getElem? (i := 6) rfl
theorem ll_8_30 : (8, 30, (-1)) ∈ aj_lls := List.mem_of_getElem? (i := 7) rfl
theorem ll_9_53 : (9, 53, 16) ∈ aj_lls := List.mem_of_getElem? (i := 8) rfl
theorem ll_9_83 : (9, 83, 8) ∈ aj_lls := List.mem_of_getElem? (i := 9) rfl
theorem ll_11_18 : (11, 18, 4294967295) ∈ aj_lls := List.mem_of_getElem? (i := 10) rfl
def aj_lns : List (Nat × Nat × Nat × Nat) := [(0, 7, 6, 2), (0, 16, 2, 2), (0, 23, 5, 3), (0, 32, 10, 6), (4, 9, 9, 6), (5, 15, 3, 2), (5, 22, 4, 16), (6, 9, 8, 4), (9, 9, 7, 7), (11, 7, 0, 4), (11, 10, 1, 28)]
theorem ln_0_7 : (0, 7, 6, 2) ∈ aj_lns := List.mem_of_getElem? (i := 0) rfl
theorem ln_0_16 : (0, 16, 2, 2) ∈ aj_lns := List.mem_of_getElem? (i := 1) rfl
theorem ln_0_23 : (0, 23, 5, 3) ∈ aj_lns := List.mem_of_getElem? (i := 2) rfl
theorem ln_0_32 : (0, 32, 10, 6) ∈ aj_lns := List.mem_of_getElem? (i := 3) rfl
theorem ln_4_9 : (4, 9, 9, 6) ∈ aj_lns := List.mem_of_getElem? (i := 4) rfl
theorem ln_5_15 : (5, 15, 3, 2) ∈ aj_lns := List.mem_of_getElem? (i := 5) rfl
theorem ln_5_22 : (5, 22, 4, 16) ∈ aj_lns := List.mem_of_getElem? (i := 6) rfl
theorem ln_6_9 : (6, 9, 8, 4) ∈ aj_lns := List.mem_of_getElem? (i := 7) rfl
theorem ln_9_9 : (9, 9, 7, 7) ∈ aj_lns := List.mem_of_getElem? (i := 8) rfl
theorem ln_11_7 : (11, 7, 0, 4) ∈ aj_lns := List.mem_of_getElem? (i := 9) rfl
theorem ln_11_10 : (11, 10, 1, 28) ∈ aj_lns := List.mem_of_getElem? (i := 10) rfl
def aj_las : List (Nat × Nat × Nat) := [(4, 9, 4), (6, 9, 5), (9, 9, 6)]
theorem la_4_9 : (4, 9, 4) ∈ aj_las := List.mem_of_getElem? (i := 0) rfl
theorem la_6_9 : (6, 9, 5) ∈ aj_las := List.mem_of_getElem? (i := 1) rfl
theorem la_9_9 : (9, 9, 6) ∈ aj_las := List.mem_of_getElem? (i := 2) rfl
def aj_los : List (Nat × Nat) := [(0, 1), (1, 1), (2, 3), (3, 3), (4, 3), (5, 3), (6, 3), (7, 3), (8, 3), (9, 3), (10, 3)]
theorem lo_0_1 : (0, 1) ∈ aj_los := List.mem_of_getElem? (i := 0) rfl
theorem lo_1_1 : (1, 1) ∈ aj_los := List.mem_of_getElem? (i := 1) rfl
theorem lo_2_3 : (2, 3) ∈ aj_los := List.mem_of_getElem? (i := 2) rfl
theorem lo_3_3 : (3, 3) ∈ aj_los := List.mem_of_getElem? (i := 3) rfl
theorem lo_4_3 : (4, 3) ∈ aj_los := List.mem_of_getElem? (i := 4) rfl
theorem lo_5_3 : (5, 3) ∈ aj_los := List.mem_of_getElem? (i := 5) rfl
theorem lo_6_3 : (6, 3) ∈ aj_los := List.mem_of_getElem? (i := 6) rfl
theorem lo_7_3 : (7, 3) ∈ aj_los := List.mem_of_getElem? (i := 7) rfl
theorem lo_8_3 : (8, 3) ∈ aj_los := List.mem_of_getElem? (i := 8) rfl
theorem lo_9_3 : (9, 3) ∈ aj_los := List.mem_of_getElem? (i := 9) rfl
theorem lo_10_3 : (10, 3) ∈ aj_los := List.mem_of_getElem? (i := 10) rfl
def aj_lxs : List (Nat × Nat × Nat) := [(7, 52, 2), (9, 85, 2), (10, 34, 1), (10, 69, 0)]
theorem lx_7_52 : (7, 52, 2) ∈ aj_lxs := List.mem_of_getElem? (i := 0) rfl
theorem lx_9_85 : (9, 85, 2) ∈ aj_lxs := List.mem_of_getElem? (i := 1) rfl
theorem lx_10_34 : (10, 34, 1) ∈ aj_lxs := List.mem_of_getElem? (i := 2) rfl
theorem lx_10_69 : (10, 69, 0) ∈ aj_lxs := List.mem_of_getElem? (i := 3) rfl
def aj_lss : List (Nat × Nat) := [(4, 139)]
theorem ls_4_139 : (4, 139) ∈ aj_lss := List.mem_of_getElem? (i := 0) rfl
def aj_gc : String := "ReelOfBoxes$Finder"
def aj_gf : String := "GONE_INTO"
def aj_gn : Nat := 3
def aj_gv : Nat → Int32
  | 0 => 0x6d6f6f76
  | 1 => 0x7472616b
  | _ => 0x7374626c
def aj_wo : List Cond := lw_tbl.filter (fun w => !k2_isCode w && goodWord w)
def aj_nw : List Cond := lw_tbl.filter (fun w => match w with
  | .fieldLinkNest .. => true
  | .methodLinkNest .. => true
  | _ => false)
def aj_wc : List Cond := [.code objectInit ⟨#[0xb1]⟩ 1 none, .code Lib.Math.min.name Lib.Math.min.code 2 (some .int), .code Lib.Math.max.name Lib.Math.max.code 2 (some .int), .code Lib.MathLoose.min_long.x Lib.MathLoose.min_long.code 4 (some .long)]
def aj_ws : List Cond := aj_ms.map (fun q => Cond.code q.2.1 q.2.2.1 q.2.2.2.1 q.2.2.2.2) ++ (aj_wc ++ aj_wo)
