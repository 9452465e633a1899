/-! The law's cases, written by wip/gen/law.py. -/
theorem s_Lw_48 : uCt "FrameFerryLaw" 48 y_Lw_open 3 (.codeWith y_Lw_open method_3_code 4 (some .int) [(0, 9, 12, 13), (0, 9, 15, 15)]) := ⟨⟨tb_of 523 (by decide +kernel) rfl, tb_of 0 (by decide +kernel) rfl, tb_of 525 (by decide +kernel) rfl, by decide +kernel⟩, tb_of 524 (by decide +kernel) rfl⟩
theorem s_Lw_53 : uCv "FrameFerryLaw" 53 y_Mo_open 1 (.code y_Mo_open prog_10_method_5_code 4 (some .int)) := ⟨⟨tb_of 803 (by decide +kernel) rfl, tb_of 8 (by decide +kernel) rfl, tb_of 806 (by decide +kernel) rfl, by decide +kernel⟩, tb_of 804 (by decide +kernel) rfl, tb_of 805 (by decide +kernel) rfl⟩
theorem s_Lw_54 : uCt "FrameFerryLaw" 54 y_Lw_feed 7 (.codeWith y_Lw_feed method_4_code 8 (some .int) [(0, 16, 19, 13), (0, 16, 23, 15)]) := ⟨⟨tb_of 619 (by decide +kernel) rfl, tb_of 0 (by decide +kernel) rfl, tb_of 621 (by decide +kernel) rfl, by decide +kernel⟩, tb_of 620 (by decide +kernel) rfl⟩
theorem s_Lw_57 : uCv "FrameFerryLaw" 57 y_Mo_feed 5 (.code y_Mo_feed prog_10_method_6_code 9 (some .int)) := ⟨⟨tb_of 814 (by decide +kernel) rfl, tb_of 8 (by decide +kernel) rfl, tb_of 817 (by decide +kernel) rfl, by decide +kernel⟩, tb_of 815 (by decide +kernel) rfl, tb_of 816 (by decide +kernel) rfl⟩
theorem s_Lw_58 : uCt "FrameFerryLaw" 58 y_Lw_clear 2 (.codeWith y_Lw_clear method_5_code 3 (some .int) [(0, 8, 11, 15)]) := ⟨⟨tb_of 628 (by decide +kernel) rfl, tb_of 0 (by decide +kernel) rfl, tb_of 630 (by decide +kernel) rfl, by decide +kernel⟩, tb_of 629 (by decide +kernel) rfl⟩
theorem s_Lw_61 : uCv "FrameFerryLaw" 61 y_Mo_clear 0 (.code y_Mo_clear prog_10_method_7_code 2 (some .int)) := ⟨⟨tb_of 818 (by decide +kernel) rfl, tb_of 8 (by decide +kernel) rfl, tb_of 821 (by decide +kernel) rfl, by decide +kernel⟩, tb_of 819 (by decide +kernel) rfl, tb_of 820 (by decide +kernel) rfl⟩
theorem s_Lw_62 : uCt "FrameFerryLaw" 62 y_Lw_start 3 (.codeWith y_Lw_start method_6_code 4 (some .int) [(0, 6, 9, 13)]) := ⟨⟨tb_of 639 (by decide +kernel) rfl, tb_of 0 (by decide +kernel) rfl, tb_of 641 (by decide +kernel) rfl, by decide +kernel⟩, tb_of 640 (by decide +kernel) rfl⟩
theorem s_Lw_65 : uCv "FrameFerryLaw" 65 y_Mo_start 2 (.code y_Mo_start prog_10_method_38_code 4 none) := ⟨⟨tb_of 822 (by decide +kernel) rfl, tb_of 8 (by decide +kernel) rfl, tb_of 825 (by decide +kernel) rfl, by decide +kernel⟩, tb_of 823 (by decide +kernel) rfl, tb_of 824 (by decide +kernel) rfl⟩
theorem s_Lw_66 : uCv "FrameFerryLaw" 66 y_Mo_thrown 0 (.code y_Mo_thrown prog_10_method_2_code 1 (some .int)) := ⟨⟨tb_of 799 (by decide +kernel) rfl, tb_of 8 (by decide +kernel) rfl, tb_of 802 (by decide +kernel) rfl, by decide +kernel⟩, tb_of 800 (by decide +kernel) rfl, tb_of 801 (by decide +kernel) rfl⟩
theorem s_Lw_69 : uCv "FrameFerryLaw" 69 y_FF_sender 0 (.code y_FF_sender prog_1_method_6_code 2 (some .int)) := ⟨⟨tb_of 242 (by decide +kernel) rfl, tb_of 1 (by decide +kernel) rfl, tb_of 245 (by decide +kernel) rfl, by decide +kernel⟩, tb_of 243 (by decide +kernel) rfl, tb_of 244 (by decide +kernel) rfl⟩
theorem s_Lw_72 : uCv "FrameFerryLaw" 72 y_Mo_sender 0 (.code y_Mo_sender prog_10_method_39_code 3 (some .int)) := ⟨⟨tb_of 877 (by decide +kernel) rfl, tb_of 8 (by decide +kernel) rfl, tb_of 880 (by decide +kernel) rfl, by decide +kernel⟩, tb_of 878 (by decide +kernel) rfl, tb_of 879 (by decide +kernel) rfl⟩
theorem s_Lw_73 : uCv "FrameFerryLaw" 73 y_FF_receiver 0 (.code y_FF_receiver prog_1_method_7_code 2 (some .int)) := ⟨⟨tb_of 417 (by decide +kernel) rfl, tb_of 1 (by decide +kernel) rfl, tb_of 420 (by decide +kernel) rfl, by decide +kernel⟩, tb_of 418 (by decide +kernel) rfl, tb_of 419 (by decide +kernel) rfl⟩
theorem s_Lw_76 : uCv "FrameFerryLaw" 76 y_Mo_receiver 0 (.code y_Mo_receiver prog_10_method_40_code 2 (some .int)) := ⟨⟨tb_of 948 (by decide +kernel) rfl, tb_of 8 (by decide +kernel) rfl, tb_of 951 (by decide +kernel) rfl, by decide +kernel⟩, tb_of 949 (by decide +kernel) rfl, tb_of 950 (by decide +kernel) rfl⟩
theorem s_Lw_77 : uCv "FrameFerryLaw" 77 y_FF_late 1 (.code y_FF_late prog_1_method_8_code 4 (some .int)) := ⟨⟨tb_of 489 (by decide +kernel) rfl, tb_of 1 (by decide +kernel) rfl, tb_of 492 (by decide +kernel) rfl, by decide +kernel⟩, tb_of 490 (by decide +kernel) rfl, tb_of 491 (by decide +kernel) rfl⟩
theorem s_Lw_81 : uCv "FrameFerryLaw" 81 y_Mo_late 1 (.code y_Mo_late prog_10_method_42_code 2 (some .int)) := ⟨⟨tb_of 956 (by decide +kernel) rfl, tb_of 8 (by decide +kernel) rfl, tb_of 959 (by decide +kernel) rfl, by decide +kernel⟩, tb_of 957 (by decide +kernel) rfl, tb_of 958 (by decide +kernel) rfl⟩
theorem s_Lw_82 : uCv "FrameFerryLaw" 82 y_FF_crash 0 (.code y_FF_crash prog_1_method_9_code 1 none) := ⟨⟨tb_of 510 (by decide +kernel) rfl, tb_of 1 (by decide +kernel) rfl, tb_of 513 (by decide +kernel) rfl, by decide +kernel⟩, tb_of 511 (by decide +kernel) rfl, tb_of 512 (by decide +kernel) rfl⟩
theorem s_Lw_85 : uCv "FrameFerryLaw" 85 y_Mo_crash 0 (.code y_Mo_crash prog_10_method_43_code 1 none) := ⟨⟨tb_of 960 (by decide +kernel) rfl, tb_of 8 (by decide +kernel) rfl, tb_of 963 (by decide +kernel) rfl, by decide +kernel⟩, tb_of 961 (by decide +kernel) rfl, tb_of 962 (by decide +kernel) rfl⟩
theorem s_Lw_86 : uCt "FrameFerryLaw" 86 y_Lw_flip 5 (.codeWith y_Lw_flip method_7_code 6 (some .int) [(0, 19, 22, 13)]) := ⟨⟨tb_of 656 (by decide +kernel) rfl, tb_of 0 (by decide +kernel) rfl, tb_of 658 (by decide +kernel) rfl, by decide +kernel⟩, tb_of 657 (by decide +kernel) rfl⟩
theorem s_Lw_89 : uCv "FrameFerryLaw" 89 y_Mo_flip 3 (.code y_Mo_flip prog_10_method_44_code 5 (some .boolean)) := ⟨⟨tb_of 964 (by decide +kernel) rfl, tb_of 8 (by decide +kernel) rfl, tb_of 967 (by decide +kernel) rfl, by decide +kernel⟩, tb_of 965 (by decide +kernel) rfl, tb_of 966 (by decide +kernel) rfl⟩
theorem s_Lw_90 : uCt "FrameFerryLaw" 90 y_Lw_lose 5 (.codeWith y_Lw_lose method_8_code 6 (some .int) [(0, 12, 15, 13)]) := ⟨⟨tb_of 667 (by decide +kernel) rfl, tb_of 0 (by decide +kernel) rfl, tb_of 669 (by decide +kernel) rfl, by decide +kernel⟩, tb_of 668 (by decide +kernel) rfl⟩
theorem s_Lw_92 : uCv "FrameFerryLaw" 92 y_Mo_lose 3 (.code y_Mo_lose prog_10_method_45_code 7 (some .int)) := ⟨⟨tb_of 968 (by decide +kernel) rfl, tb_of 8 (by decide +kernel) rfl, tb_of 971 (by decide +kernel) rfl, by decide +kernel⟩, tb_of 969 (by decide +kernel) rfl, tb_of 970 (by decide +kernel) rfl⟩
theorem s_Lw_93 : uCv "FrameFerryLaw" 93 y_FF_pipe 2 (.code y_FF_pipe prog_1_method_12_code 3 (some .int)) := ⟨⟨tb_of 518 (by decide +kernel) rfl, tb_of 1 (by decide +kernel) rfl, tb_of 521 (by decide +kernel) rfl, by decide +kernel⟩, tb_of 519 (by decide +kernel) rfl, tb_of 520 (by decide +kernel) rfl⟩
theorem s_Lw_97 : uCv "FrameFerryLaw" 97 y_Mo_pipe 2 (.code y_Mo_pipe prog_10_method_46_code 4 (some .int)) := ⟨⟨tb_of 972 (by decide +kernel) rfl, tb_of 8 (by decide +kernel) rfl, tb_of 975 (by decide +kernel) rfl, by decide +kernel⟩, tb_of 973 (by decide +kernel) rfl, tb_of 974 (by decide +kernel) rfl⟩
theorem s_Lw_98 : uCt "FrameFerryLaw" 98 y_Lw_got 4 (.codeWith y_Lw_got method_9_code 5 (some .int) [(0, 10, 13, 13)]) := ⟨⟨tb_of 675 (by decide +kernel) rfl, tb_of 0 (by decide +kernel) rfl, tb_of 677 (by decide +kernel) rfl, by decide +kernel⟩, tb_of 676 (by decide +kernel) rfl⟩
theorem s_Lw_101 : uCv "FrameFerryLaw" 101 y_Mo_got 2 (.code y_Mo_got prog_10_method_47_code 3 (some .int)) := ⟨⟨tb_of 976 (by decide +kernel) rfl, tb_of 8 (by decide +kernel) rfl, tb_of 979 (by decide +kernel) rfl, by decide +kernel⟩, tb_of 977 (by decide +kernel) rfl, tb_of 978 (by decide +kernel) rfl⟩
theorem s_Lw_102 : uCt "FrameFerryLaw" 102 y_Lw_count 3 (.codeWith y_Lw_count method_10_code 4 (some .int) [(0, 9, 12, 13)]) := ⟨⟨tb_of 683 (by decide +kernel) rfl, tb_of 0 (by decide +kernel) rfl, tb_of 685 (by decide +kernel) rfl, by decide +kernel⟩, tb_of 684 (by decide +kernel) rfl⟩
theorem s_Lw_104 : uCv "FrameFerryLaw" 104 y_Mo_count 1 (.code y_Mo_count prog_10_method_48_code 2 (some .int)) := ⟨⟨tb_of 980 (by decide +kernel) rfl, tb_of 8 (by decide +kernel) rfl, tb_of 983 (by decide +kernel) rfl, by decide +kernel⟩, tb_of 981 (by decide +kernel) rfl, tb_of 982 (by decide +kernel) rfl⟩
section G
variable {p : Program} {l : Launch} {e : Env} {s : State} {m : MethodId} {below : List Frame} {meth : Method} {c : Code} {D : va_G} {cc : Nat → ClassId} {L L0 : List Nat} {A A0 : Nat → Nat} {J : Nat → Int64} {t16 t32 b n : Nat} {I : UI} {R : UR} {H : Heap} {locs : List Loc} {kc ks : Nat} {ls : Array Slot} {xs : Nat → Int32} {i y1 y2 y3 y4 y5 : Int32}
theorem d_Lw_law_0 : decode code 0 = .ok (.new 8, 3) := by decide +kernel
theorem d_Lw_law_3 : decode code 3 = .ok (.dup, 1) := by decide +kernel
theorem d_Lw_law_4 : decode code 4 = .ok (.invokespecial 44, 3) := by decide +kernel
theorem d_Lw_law_7 : decode code 7 = .ok (.astore_n 1, 1) := by decide +kernel
theorem d_Lw_law_8 : decode code 8 = .ok (.new 45, 3) := by decide +kernel
theorem d_Lw_law_11 : decode code 11 = .ok (.dup, 1) := by decide +kernel
theorem d_Lw_law_12 : decode code 12 = .ok (.invokespecial 47, 3) := by decide +kernel
theorem d_Lw_law_15 : decode code 15 = .ok (.astore_n 2, 1) := by decide +kernel
theorem d_Lw_law_16 : decode code 16 = .ok (.iconst 1, 1) := by decide +kernel
theorem d_Lw_law_17 : decode code 17 = .ok (.newarray .long, 2) := by decide +kernel
theorem d_Lw_law_19 : decode code 19 = .ok (.astore_n 3, 1) := by decide +kernel
theorem d_Lw_law_20 : decode code 20 = .ok (.iconst 0, 1) := by decide +kernel
theorem d_Lw_law_21 : decode code 21 = .ok (.istore 4, 2) := by decide +kernel
theorem d_Lw_law_23 : decode code 23 = .ok (.iload 4, 2) := by decide +kernel
theorem d_Lw_law_25 : decode code 25 = .ok (.aload_n 0, 1) := by decide +kernel
theorem d_Lw_law_26 : decode code 26 = .ok (.arraylength, 1) := by decide +kernel
theorem d_Lw_law_27 : decode code 27 = .ok (.bipush 6, 2) := by decide +kernel
theorem d_Lw_law_29 : decode code 29 = .ok (.isub, 1) := by decide +kernel
theorem d_Lw_law_30 : decode code 30 = .ok (.if_icmp .gt 603, 3) := by decide +kernel
theorem d_Lw_law_33 : decode code 33 = .ok (.aload_n 0, 1) := by decide +kernel
theorem d_Lw_law_34 : decode code 34 = .ok (.iload 4, 2) := by decide +kernel
theorem d_Lw_law_36 : decode code 36 = .ok (.iaload, 1) := by decide +kernel
theorem d_Lw_law_37 : decode code 37 = .ok (.bipush 15, 2) := by decide +kernel
theorem d_Lw_law_39 : decode code 39 = .ok (.iand, 1) := by decide +kernel
theorem d_Lw_law_40 : decode code 40 = .ok (.tableswitch 587 0 12 #[68, 96, 172, 188, 252, 265, 278, 319, 330, 398, 466, 519, 559], 68) := by decide +kernel
theorem d_Lw_law_108 : decode code 108 = .ok (.aload_n 1, 1) := by decide +kernel
theorem d_Lw_law_109 : decode code 109 = .ok (.aload_n 0, 1) := by decide +kernel
theorem d_Lw_law_110 : decode code 110 = .ok (.iload 4, 2) := by decide +kernel
theorem d_Lw_law_112 : decode code 112 = .ok (.iconst 1, 1) := by decide +kernel
theorem d_Lw_law_113 : decode code 113 = .ok (.iadd, 1) := by decide +kernel
theorem d_Lw_law_114 : decode code 114 = .ok (.iaload, 1) := by decide +kernel
theorem d_Lw_law_115 : decode code 115 = .ok (.aload_n 3, 1) := by decide +kernel
theorem d_Lw_law_116 : decode code 116 = .ok (.invokestatic 48, 3) := by decide +kernel
theorem d_Lw_law_119 : decode code 119 = .ok (.istore 5, 2) := by decide +kernel
theorem d_Lw_law_121 : decode code 121 = .ok (.aload_n 2, 1) := by decide +kernel
theorem d_Lw_law_122 : decode code 122 = .ok (.aload_n 0, 1) := by decide +kernel
theorem d_Lw_law_123 : decode code 123 = .ok (.iload 4, 2) := by decide +kernel
theorem d_Lw_law_125 : decode code 125 = .ok (.iconst 1, 1) := by decide +kernel
theorem d_Lw_law_126 : decode code 126 = .ok (.iadd, 1) := by decide +kernel
theorem d_Lw_law_127 : decode code 127 = .ok (.iaload, 1) := by decide +kernel
theorem d_Lw_law_128 : decode code 128 = .ok (.invokevirtual 53, 3) := by decide +kernel
theorem d_Lw_law_131 : decode code 131 = .ok (.istore 6, 2) := by decide +kernel
theorem d_Lw_law_133 : decode code 133 = .ok (.goto 494, 3) := by decide +kernel
theorem d_Lw_law_136 : decode code 136 = .ok (.aload_n 1, 1) := by decide +kernel
theorem d_Lw_law_137 : decode code 137 = .ok (.aload_n 0, 1) := by decide +kernel
theorem d_Lw_law_138 : decode code 138 = .ok (.iload 4, 2) := by decide +kernel
theorem d_Lw_law_140 : decode code 140 = .ok (.iconst 1, 1) := by decide +kernel
theorem d_Lw_law_141 : decode code 141 = .ok (.iadd, 1) := by decide +kernel
theorem d_Lw_law_142 : decode code 142 = .ok (.iaload, 1) := by decide +kernel
theorem d_Lw_law_143 : decode code 143 = .ok (.aload_n 0, 1) := by decide +kernel
theorem d_Lw_law_144 : decode code 144 = .ok (.iload 4, 2) := by decide +kernel
theorem d_Lw_law_146 : decode code 146 = .ok (.iconst 2, 1) := by decide +kernel
theorem d_Lw_law_147 : decode code 147 = .ok (.iadd, 1) := by decide +kernel
theorem d_Lw_law_148 : decode code 148 = .ok (.iaload, 1) := by decide +kernel
theorem d_Lw_law_149 : decode code 149 = .ok (.aload_n 0, 1) := by decide +kernel
theorem d_Lw_law_150 : decode code 150 = .ok (.iload 4, 2) := by decide +kernel
theorem d_Lw_law_152 : decode code 152 = .ok (.iconst 3, 1) := by decide +kernel
theorem d_Lw_law_153 : decode code 153 = .ok (.iadd, 1) := by decide +kernel
theorem d_Lw_law_154 : decode code 154 = .ok (.iaload, 1) := by decide +kernel
theorem d_Lw_law_155 : decode code 155 = .ok (.aload_n 0, 1) := by decide +kernel
theorem d_Lw_law_156 : decode code 156 = .ok (.iload 4, 2) := by decide +kernel
theorem d_Lw_law_158 : decode code 158 = .ok (.iconst 4, 1) := by decide +kernel
theorem d_Lw_law_159 : decode code 159 = .ok (.iadd, 1) := by decide +kernel
theorem d_Lw_law_160 : decode code 160 = .ok (.iaload, 1) := by decide +kernel
theorem d_Lw_law_161 : decode code 161 = .ok (.aload_n 0, 1) := by decide +kernel
theorem d_Lw_law_162 : decode code 162 = .ok (.iload 4, 2) := by decide +kernel
theorem d_Lw_law_164 : decode code 164 = .ok (.iconst 5, 1) := by decide +kernel
theorem d_Lw_law_165 : decode code 165 = .ok (.iadd, 1) := by decide +kernel
theorem d_Lw_law_166 : decode code 166 = .ok (.iaload, 1) := by decide +kernel
theorem d_Lw_law_167 : decode code 167 = .ok (.aload_n 3, 1) := by decide +kernel
theorem d_Lw_law_168 : decode code 168 = .ok (.invokestatic 54, 3) := by decide +kernel
theorem d_Lw_law_171 : decode code 171 = .ok (.istore 5, 2) := by decide +kernel
theorem d_Lw_law_173 : decode code 173 = .ok (.aload_n 2, 1) := by decide +kernel
theorem d_Lw_law_174 : decode code 174 = .ok (.aload_n 0, 1) := by decide +kernel
theorem d_Lw_law_175 : decode code 175 = .ok (.iload 4, 2) := by decide +kernel
theorem d_Lw_law_177 : decode code 177 = .ok (.iconst 1, 1) := by decide +kernel
theorem d_Lw_law_178 : decode code 178 = .ok (.iadd, 1) := by decide +kernel
theorem d_Lw_law_179 : decode code 179 = .ok (.iaload, 1) := by decide +kernel
theorem d_Lw_law_180 : decode code 180 = .ok (.aload_n 0, 1) := by decide +kernel
theorem d_Lw_law_181 : decode code 181 = .ok (.iload 4, 2) := by decide +kernel
theorem d_Lw_law_183 : decode code 183 = .ok (.iconst 2, 1) := by decide +kernel
theorem d_Lw_law_184 : decode code 184 = .ok (.iadd, 1) := by decide +kernel
theorem d_Lw_law_185 : decode code 185 = .ok (.iaload, 1) := by decide +kernel
theorem d_Lw_law_186 : decode code 186 = .ok (.aload_n 0, 1) := by decide +kernel
theorem d_Lw_law_187 : decode code 187 = .ok (.iload 4, 2) := by decide +kernel
theorem d_Lw_law_189 : decode code 189 = .ok (.iconst 3, 1) := by decide +kernel
theorem d_Lw_law_190 : decode code 190 = .ok (.iadd, 1) := by decide +kernel
theorem d_Lw_law_191 : decode code 191 = .ok (.iaload, 1) := by decide +kernel
theorem d_Lw_law_192 : decode code 192 = .ok (.aload_n 0, 1) := by decide +kernel
theorem d_Lw_law_193 : decode code 193 = .ok (.iload 4, 2) := by decide +kernel
theorem d_Lw_law_195 : decode code 195 = .ok (.iconst 4, 1) := by decide +kernel
theorem d_Lw_law_196 : decode code 196 = .ok (.iadd, 1) := by decide +kernel
theorem d_Lw_law_197 : decode code 197 = .ok (.iaload, 1) := by decide +kernel
theorem d_Lw_law_198 : decode code 198 = .ok (.aload_n 0, 1) := by decide +kernel
theorem d_Lw_law_199 : decode code 199 = .ok (.iload 4, 2) := by decide +kernel
theorem d_Lw_law_201 : decode code 201 = .ok (.iconst 5, 1) := by decide +kernel
theorem d_Lw_law_202 : decode code 202 = .ok (.iadd, 1) := by decide +kernel
theorem d_Lw_law_203 : decode code 203 = .ok (.iaload, 1) := by decide +kernel
theorem d_Lw_law_204 : decode code 204 = .ok (.invokevirtual 57, 3) := by decide +kernel
theorem d_Lw_law_207 : decode code 207 = .ok (.istore 6, 2) := by decide +kernel
theorem d_Lw_law_209 : decode code 209 = .ok (.goto 418, 3) := by decide +kernel
theorem d_Lw_law_212 : decode code 212 = .ok (.aload_n 1, 1) := by decide +kernel
theorem d_Lw_law_213 : decode code 213 = .ok (.aload_n 3, 1) := by decide +kernel
theorem d_Lw_law_214 : decode code 214 = .ok (.invokestatic 58, 3) := by decide +kernel
theorem d_Lw_law_217 : decode code 217 = .ok (.istore 5, 2) := by decide +kernel
theorem d_Lw_law_219 : decode code 219 = .ok (.aload_n 2, 1) := by decide +kernel
theorem d_Lw_law_220 : decode code 220 = .ok (.invokevirtual 61, 3) := by decide +kernel
theorem d_Lw_law_223 : decode code 223 = .ok (.istore 6, 2) := by decide +kernel
theorem d_Lw_law_225 : decode code 225 = .ok (.goto 402, 3) := by decide +kernel
theorem d_Lw_law_228 : decode code 228 = .ok (.aload_n 1, 1) := by decide +kernel
theorem d_Lw_law_229 : decode code 229 = .ok (.aload_n 0, 1) := by decide +kernel
theorem d_Lw_law_230 : decode code 230 = .ok (.iload 4, 2) := by decide +kernel
theorem d_Lw_law_232 : decode code 232 = .ok (.iconst 1, 1) := by decide +kernel
theorem d_Lw_law_233 : decode code 233 = .ok (.iadd, 1) := by decide +kernel
theorem d_Lw_law_234 : decode code 234 = .ok (.iaload, 1) := by decide +kernel
theorem d_Lw_law_235 : decode code 235 = .ok (.ifCond .eq 7, 3) := by decide +kernel
theorem d_Lw_law_238 : decode code 238 = .ok (.iconst 1, 1) := by decide +kernel
theorem d_Lw_law_239 : decode code 239 = .ok (.goto 4, 3) := by decide +kernel
theorem d_Lw_law_242 : decode code 242 = .ok (.iconst 0, 1) := by decide +kernel
theorem d_Lw_law_243 : decode code 243 = .ok (.aload_n 0, 1) := by decide +kernel
theorem d_Lw_law_244 : decode code 244 = .ok (.iload 4, 2) := by decide +kernel
theorem d_Lw_law_246 : decode code 246 = .ok (.iconst 2, 1) := by decide +kernel
theorem d_Lw_law_247 : decode code 247 = .ok (.iadd, 1) := by decide +kernel
theorem d_Lw_law_248 : decode code 248 = .ok (.iaload, 1) := by decide +kernel
theorem d_Lw_law_249 : decode code 249 = .ok (.invokestatic 62, 3) := by decide +kernel
theorem d_Lw_law_252 : decode code 252 = .ok (.istore 5, 2) := by decide +kernel
theorem d_Lw_law_254 : decode code 254 = .ok (.aload_n 2, 1) := by decide +kernel
theorem d_Lw_law_255 : decode code 255 = .ok (.aload_n 0, 1) := by decide +kernel
theorem d_Lw_law_256 : decode code 256 = .ok (.iload 4, 2) := by decide +kernel
theorem d_Lw_law_258 : decode code 258 = .ok (.iconst 1, 1) := by decide +kernel
theorem d_Lw_law_259 : decode code 259 = .ok (.iadd, 1) := by decide +kernel
theorem d_Lw_law_260 : decode code 260 = .ok (.iaload, 1) := by decide +kernel
theorem d_Lw_law_261 : decode code 261 = .ok (.ifCond .eq 7, 3) := by decide +kernel
theorem d_Lw_law_264 : decode code 264 = .ok (.iconst 1, 1) := by decide +kernel
theorem d_Lw_law_265 : decode code 265 = .ok (.goto 4, 3) := by decide +kernel
theorem d_Lw_law_268 : decode code 268 = .ok (.iconst 0, 1) := by decide +kernel
theorem d_Lw_law_269 : decode code 269 = .ok (.aload_n 0, 1) := by decide +kernel
theorem d_Lw_law_270 : decode code 270 = .ok (.iload 4, 2) := by decide +kernel
theorem d_Lw_law_272 : decode code 272 = .ok (.iconst 2, 1) := by decide +kernel
theorem d_Lw_law_273 : decode code 273 = .ok (.iadd, 1) := by decide +kernel
theorem d_Lw_law_274 : decode code 274 = .ok (.iaload, 1) := by decide +kernel
theorem d_Lw_law_275 : decode code 275 = .ok (.invokevirtual 65, 3) := by decide +kernel
theorem d_Lw_law_278 : decode code 278 = .ok (.aload_n 2, 1) := by decide +kernel
theorem d_Lw_law_279 : decode code 279 = .ok (.invokevirtual 66, 3) := by decide +kernel
theorem d_Lw_law_282 : decode code 282 = .ok (.iload 5, 2) := by decide +kernel
theorem d_Lw_law_284 : decode code 284 = .ok (.if_icmp .eq 5, 3) := by decide +kernel
theorem d_Lw_law_287 : decode code 287 = .ok (.iconst 0, 1) := by decide +kernel
theorem d_Lw_law_288 : decode code 288 = .ok (.ireturn, 1) := by decide +kernel
theorem d_Lw_law_289 : decode code 289 = .ok (.goto 338, 3) := by decide +kernel
theorem d_Lw_law_292 : decode code 292 = .ok (.aload_n 1, 1) := by decide +kernel
theorem d_Lw_law_293 : decode code 293 = .ok (.invokevirtual 69, 3) := by decide +kernel
theorem d_Lw_law_296 : decode code 296 = .ok (.pop, 1) := by decide +kernel
theorem d_Lw_law_297 : decode code 297 = .ok (.aload_n 2, 1) := by decide +kernel
theorem d_Lw_law_298 : decode code 298 = .ok (.invokevirtual 72, 3) := by decide +kernel
theorem d_Lw_law_301 : decode code 301 = .ok (.pop, 1) := by decide +kernel
theorem d_Lw_law_302 : decode code 302 = .ok (.goto 325, 3) := by decide +kernel
theorem d_Lw_law_305 : decode code 305 = .ok (.aload_n 1, 1) := by decide +kernel
theorem d_Lw_law_306 : decode code 306 = .ok (.invokevirtual 73, 3) := by decide +kernel
theorem d_Lw_law_309 : decode code 309 = .ok (.pop, 1) := by decide +kernel
theorem d_Lw_law_310 : decode code 310 = .ok (.aload_n 2, 1) := by decide +kernel
theorem d_Lw_law_311 : decode code 311 = .ok (.invokevirtual 76, 3) := by decide +kernel
theorem d_Lw_law_314 : decode code 314 = .ok (.pop, 1) := by decide +kernel
theorem d_Lw_law_315 : decode code 315 = .ok (.goto 312, 3) := by decide +kernel
theorem d_Lw_law_318 : decode code 318 = .ok (.aload_n 1, 1) := by decide +kernel
theorem d_Lw_law_319 : decode code 319 = .ok (.aload_n 0, 1) := by decide +kernel
theorem d_Lw_law_320 : decode code 320 = .ok (.iload 4, 2) := by decide +kernel
theorem d_Lw_law_322 : decode code 322 = .ok (.iconst 1, 1) := by decide +kernel
theorem d_Lw_law_323 : decode code 323 = .ok (.iadd, 1) := by decide +kernel
theorem d_Lw_law_324 : decode code 324 = .ok (.iaload, 1) := by decide +kernel
theorem d_Lw_law_325 : decode code 325 = .ok (.ifCond .eq 7, 3) := by decide +kernel
theorem d_Lw_law_328 : decode code 328 = .ok (.iconst 1, 1) := by decide +kernel
theorem d_Lw_law_329 : decode code 329 = .ok (.goto 4, 3) := by decide +kernel
theorem d_Lw_law_332 : decode code 332 = .ok (.iconst 0, 1) := by decide +kernel
theorem d_Lw_law_333 : decode code 333 = .ok (.invokevirtual 77, 3) := by decide +kernel
theorem d_Lw_law_336 : decode code 336 = .ok (.pop, 1) := by decide +kernel
theorem d_Lw_law_337 : decode code 337 = .ok (.aload_n 2, 1) := by decide +kernel
theorem d_Lw_law_338 : decode code 338 = .ok (.aload_n 0, 1) := by decide +kernel
theorem d_Lw_law_339 : decode code 339 = .ok (.iload 4, 2) := by decide +kernel
theorem d_Lw_law_341 : decode code 341 = .ok (.iconst 1, 1) := by decide +kernel
theorem d_Lw_law_342 : decode code 342 = .ok (.iadd, 1) := by decide +kernel
theorem d_Lw_law_343 : decode code 343 = .ok (.iaload, 1) := by decide +kernel
theorem d_Lw_law_344 : decode code 344 = .ok (.ifCond .eq 7, 3) := by decide +kernel
theorem d_Lw_law_347 : decode code 347 = .ok (.iconst 1, 1) := by decide +kernel
theorem d_Lw_law_348 : decode code 348 = .ok (.goto 4, 3) := by decide +kernel
theorem d_Lw_law_351 : decode code 351 = .ok (.iconst 0, 1) := by decide +kernel
theorem d_Lw_law_352 : decode code 352 = .ok (.invokevirtual 81, 3) := by decide +kernel
theorem d_Lw_law_355 : decode code 355 = .ok (.pop, 1) := by decide +kernel
theorem d_Lw_law_356 : decode code 356 = .ok (.goto 271, 3) := by decide +kernel
theorem d_Lw_law_359 : decode code 359 = .ok (.aload_n 1, 1) := by decide +kernel
theorem d_Lw_law_360 : decode code 360 = .ok (.invokevirtual 82, 3) := by decide +kernel
theorem d_Lw_law_363 : decode code 363 = .ok (.aload_n 2, 1) := by decide +kernel
theorem d_Lw_law_364 : decode code 364 = .ok (.invokevirtual 85, 3) := by decide +kernel
theorem d_Lw_law_367 : decode code 367 = .ok (.goto 260, 3) := by decide +kernel
theorem d_Lw_law_370 : decode code 370 = .ok (.aload_n 1, 1) := by decide +kernel
theorem d_Lw_law_371 : decode code 371 = .ok (.aload_n 0, 1) := by decide +kernel
theorem d_Lw_law_372 : decode code 372 = .ok (.iload 4, 2) := by decide +kernel
theorem d_Lw_law_374 : decode code 374 = .ok (.iconst 1, 1) := by decide +kernel
theorem d_Lw_law_375 : decode code 375 = .ok (.iadd, 1) := by decide +kernel
theorem d_Lw_law_376 : decode code 376 = .ok (.iaload, 1) := by decide +kernel
theorem d_Lw_law_377 : decode code 377 = .ok (.ifCond .eq 7, 3) := by decide +kernel
theorem d_Lw_law_380 : decode code 380 = .ok (.iconst 1, 1) := by decide +kernel
theorem d_Lw_law_381 : decode code 381 = .ok (.goto 4, 3) := by decide +kernel
theorem d_Lw_law_384 : decode code 384 = .ok (.iconst 0, 1) := by decide +kernel
theorem d_Lw_law_385 : decode code 385 = .ok (.aload_n 0, 1) := by decide +kernel
theorem d_Lw_law_386 : decode code 386 = .ok (.iload 4, 2) := by decide +kernel
theorem d_Lw_law_388 : decode code 388 = .ok (.iconst 2, 1) := by decide +kernel
theorem d_Lw_law_389 : decode code 389 = .ok (.iadd, 1) := by decide +kernel
theorem d_Lw_law_390 : decode code 390 = .ok (.iaload, 1) := by decide +kernel
theorem d_Lw_law_391 : decode code 391 = .ok (.aload_n 0, 1) := by decide +kernel
theorem d_Lw_law_392 : decode code 392 = .ok (.iload 4, 2) := by decide +kernel
theorem d_Lw_law_394 : decode code 394 = .ok (.iconst 3, 1) := by decide +kernel
theorem d_Lw_law_395 : decode code 395 = .ok (.iadd, 1) := by decide +kernel
theorem d_Lw_law_396 : decode code 396 = .ok (.iaload, 1) := by decide +kernel
theorem d_Lw_law_397 : decode code 397 = .ok (.aload_n 3, 1) := by decide +kernel
theorem d_Lw_law_398 : decode code 398 = .ok (.invokestatic 86, 3) := by decide +kernel
theorem d_Lw_law_401 : decode code 401 = .ok (.istore 5, 2) := by decide +kernel
theorem d_Lw_law_403 : decode code 403 = .ok (.aload_n 2, 1) := by decide +kernel
theorem d_Lw_law_404 : decode code 404 = .ok (.aload_n 0, 1) := by decide +kernel
theorem d_Lw_law_405 : decode code 405 = .ok (.iload 4, 2) := by decide +kernel
theorem d_Lw_law_407 : decode code 407 = .ok (.iconst 1, 1) := by decide +kernel
theorem d_Lw_law_408 : decode code 408 = .ok (.iadd, 1) := by decide +kernel
theorem d_Lw_law_409 : decode code 409 = .ok (.iaload, 1) := by decide +kernel
theorem d_Lw_law_410 : decode code 410 = .ok (.ifCond .eq 7, 3) := by decide +kernel
theorem d_Lw_law_413 : decode code 413 = .ok (.iconst 1, 1) := by decide +kernel
theorem d_Lw_law_414 : decode code 414 = .ok (.goto 4, 3) := by decide +kernel
theorem d_Lw_law_417 : decode code 417 = .ok (.iconst 0, 1) := by decide +kernel
theorem d_Lw_law_418 : decode code 418 = .ok (.aload_n 0, 1) := by decide +kernel
theorem d_Lw_law_419 : decode code 419 = .ok (.iload 4, 2) := by decide +kernel
theorem d_Lw_law_421 : decode code 421 = .ok (.iconst 2, 1) := by decide +kernel
theorem d_Lw_law_422 : decode code 422 = .ok (.iadd, 1) := by decide +kernel
theorem d_Lw_law_423 : decode code 423 = .ok (.iaload, 1) := by decide +kernel
theorem d_Lw_law_424 : decode code 424 = .ok (.aload_n 0, 1) := by decide +kernel
theorem d_Lw_law_425 : decode code 425 = .ok (.iload 4, 2) := by decide +kernel
theorem d_Lw_law_427 : decode code 427 = .ok (.iconst 3, 1) := by decide +kernel
theorem d_Lw_law_428 : decode code 428 = .ok (.iadd, 1) := by decide +kernel
theorem d_Lw_law_429 : decode code 429 = .ok (.iaload, 1) := by decide +kernel
theorem d_Lw_law_430 : decode code 430 = .ok (.invokevirtual 89, 3) := by decide +kernel
theorem d_Lw_law_433 : decode code 433 = .ok (.istore 6, 2) := by decide +kernel
theorem d_Lw_law_435 : decode code 435 = .ok (.goto 192, 3) := by decide +kernel
theorem d_Lw_law_438 : decode code 438 = .ok (.aload_n 1, 1) := by decide +kernel
theorem d_Lw_law_439 : decode code 439 = .ok (.aload_n 0, 1) := by decide +kernel
theorem d_Lw_law_440 : decode code 440 = .ok (.iload 4, 2) := by decide +kernel
theorem d_Lw_law_442 : decode code 442 = .ok (.iconst 1, 1) := by decide +kernel
theorem d_Lw_law_443 : decode code 443 = .ok (.iadd, 1) := by decide +kernel
theorem d_Lw_law_444 : decode code 444 = .ok (.iaload, 1) := by decide +kernel
theorem d_Lw_law_445 : decode code 445 = .ok (.ifCond .eq 7, 3) := by decide +kernel
theorem d_Lw_law_448 : decode code 448 = .ok (.iconst 1, 1) := by decide +kernel
theorem d_Lw_law_449 : decode code 449 = .ok (.goto 4, 3) := by decide +kernel
theorem d_Lw_law_452 : decode code 452 = .ok (.iconst 0, 1) := by decide +kernel
theorem d_Lw_law_453 : decode code 453 = .ok (.aload_n 0, 1) := by decide +kernel
theorem d_Lw_law_454 : decode code 454 = .ok (.iload 4, 2) := by decide +kernel
theorem d_Lw_law_456 : decode code 456 = .ok (.iconst 2, 1) := by decide +kernel
theorem d_Lw_law_457 : decode code 457 = .ok (.iadd, 1) := by decide +kernel
theorem d_Lw_law_458 : decode code 458 = .ok (.iaload, 1) := by decide +kernel
theorem d_Lw_law_459 : decode code 459 = .ok (.aload_n 0, 1) := by decide +kernel
theorem d_Lw_law_460 : decode code 460 = .ok (.iload 4, 2) := by decide +kernel
theorem d_Lw_law_462 : decode code 462 = .ok (.iconst 3, 1) := by decide +kernel
theorem d_Lw_law_463 : decode code 463 = .ok (.iadd, 1) := by decide +kernel
theorem d_Lw_law_464 : decode code 464 = .ok (.iaload, 1) := by decide +kernel
theorem d_Lw_law_465 : decode code 465 = .ok (.aload_n 3, 1) := by decide +kernel
theorem d_Lw_law_466 : decode code 466 = .ok (.invokestatic 90, 3) := by decide +kernel
theorem d_Lw_law_469 : decode code 469 = .ok (.istore 5, 2) := by decide +kernel
theorem d_Lw_law_471 : decode code 471 = .ok (.aload_n 2, 1) := by decide +kernel
theorem d_Lw_law_472 : decode code 472 = .ok (.aload_n 0, 1) := by decide +kernel
theorem d_Lw_law_473 : decode code 473 = .ok (.iload 4, 2) := by decide +kernel
theorem d_Lw_law_475 : decode code 475 = .ok (.iconst 1, 1) := by decide +kernel
theorem d_Lw_law_476 : decode code 476 = .ok (.iadd, 1) := by decide +kernel
theorem d_Lw_law_477 : decode code 477 = .ok (.iaload, 1) := by decide +kernel
theorem d_Lw_law_478 : decode code 478 = .ok (.ifCond .eq 7, 3) := by decide +kernel
theorem d_Lw_law_481 : decode code 481 = .ok (.iconst 1, 1) := by decide +kernel
theorem d_Lw_law_482 : decode code 482 = .ok (.goto 4, 3) := by decide +kernel
theorem d_Lw_law_485 : decode code 485 = .ok (.iconst 0, 1) := by decide +kernel
theorem d_Lw_law_486 : decode code 486 = .ok (.aload_n 0, 1) := by decide +kernel
theorem d_Lw_law_487 : decode code 487 = .ok (.iload 4, 2) := by decide +kernel
theorem d_Lw_law_489 : decode code 489 = .ok (.iconst 2, 1) := by decide +kernel
theorem d_Lw_law_490 : decode code 490 = .ok (.iadd, 1) := by decide +kernel
theorem d_Lw_law_491 : decode code 491 = .ok (.iaload, 1) := by decide +kernel
theorem d_Lw_law_492 : decode code 492 = .ok (.aload_n 0, 1) := by decide +kernel
theorem d_Lw_law_493 : decode code 493 = .ok (.iload 4, 2) := by decide +kernel
theorem d_Lw_law_495 : decode code 495 = .ok (.iconst 3, 1) := by decide +kernel
theorem d_Lw_law_496 : decode code 496 = .ok (.iadd, 1) := by decide +kernel
theorem d_Lw_law_497 : decode code 497 = .ok (.iaload, 1) := by decide +kernel
theorem d_Lw_law_498 : decode code 498 = .ok (.invokevirtual 92, 3) := by decide +kernel
theorem d_Lw_law_501 : decode code 501 = .ok (.istore 6, 2) := by decide +kernel
theorem d_Lw_law_503 : decode code 503 = .ok (.goto 124, 3) := by decide +kernel
theorem d_Lw_law_506 : decode code 506 = .ok (.aload_n 1, 1) := by decide +kernel
theorem d_Lw_law_507 : decode code 507 = .ok (.aload_n 0, 1) := by decide +kernel
theorem d_Lw_law_508 : decode code 508 = .ok (.iload 4, 2) := by decide +kernel
theorem d_Lw_law_510 : decode code 510 = .ok (.iconst 1, 1) := by decide +kernel
theorem d_Lw_law_511 : decode code 511 = .ok (.iadd, 1) := by decide +kernel
theorem d_Lw_law_512 : decode code 512 = .ok (.iaload, 1) := by decide +kernel
theorem d_Lw_law_513 : decode code 513 = .ok (.ifCond .eq 7, 3) := by decide +kernel
theorem d_Lw_law_516 : decode code 516 = .ok (.iconst 1, 1) := by decide +kernel
theorem d_Lw_law_517 : decode code 517 = .ok (.goto 4, 3) := by decide +kernel
theorem d_Lw_law_520 : decode code 520 = .ok (.iconst 0, 1) := by decide +kernel
theorem d_Lw_law_521 : decode code 521 = .ok (.aload_n 0, 1) := by decide +kernel
theorem d_Lw_law_522 : decode code 522 = .ok (.iload 4, 2) := by decide +kernel
theorem d_Lw_law_524 : decode code 524 = .ok (.iconst 2, 1) := by decide +kernel
theorem d_Lw_law_525 : decode code 525 = .ok (.iadd, 1) := by decide +kernel
theorem d_Lw_law_526 : decode code 526 = .ok (.iaload, 1) := by decide +kernel
theorem d_Lw_law_527 : decode code 527 = .ok (.invokevirtual 93, 3) := by decide +kernel
theorem d_Lw_law_530 : decode code 530 = .ok (.pop, 1) := by decide +kernel
theorem d_Lw_law_531 : decode code 531 = .ok (.aload_n 2, 1) := by decide +kernel
theorem d_Lw_law_532 : decode code 532 = .ok (.aload_n 0, 1) := by decide +kernel
theorem d_Lw_law_533 : decode code 533 = .ok (.iload 4, 2) := by decide +kernel
theorem d_Lw_law_535 : decode code 535 = .ok (.iconst 1, 1) := by decide +kernel
theorem d_Lw_law_536 : decode code 536 = .ok (.iadd, 1) := by decide +kernel
theorem d_Lw_law_537 : decode code 537 = .ok (.iaload, 1) := by decide +kernel
theorem d_Lw_law_538 : decode code 538 = .ok (.ifCond .eq 7, 3) := by decide +kernel
theorem d_Lw_law_541 : decode code 541 = .ok (.iconst 1, 1) := by decide +kernel
theorem d_Lw_law_542 : decode code 542 = .ok (.goto 4, 3) := by decide +kernel
theorem d_Lw_law_545 : decode code 545 = .ok (.iconst 0, 1) := by decide +kernel
theorem d_Lw_law_546 : decode code 546 = .ok (.aload_n 0, 1) := by decide +kernel
theorem d_Lw_law_547 : decode code 547 = .ok (.iload 4, 2) := by decide +kernel
theorem d_Lw_law_549 : decode code 549 = .ok (.iconst 2, 1) := by decide +kernel
theorem d_Lw_law_550 : decode code 550 = .ok (.iadd, 1) := by decide +kernel
theorem d_Lw_law_551 : decode code 551 = .ok (.iaload, 1) := by decide +kernel
theorem d_Lw_law_552 : decode code 552 = .ok (.invokevirtual 97, 3) := by decide +kernel
theorem d_Lw_law_555 : decode code 555 = .ok (.pop, 1) := by decide +kernel
theorem d_Lw_law_556 : decode code 556 = .ok (.goto 71, 3) := by decide +kernel
theorem d_Lw_law_559 : decode code 559 = .ok (.aload_n 1, 1) := by decide +kernel
theorem d_Lw_law_560 : decode code 560 = .ok (.aload_n 0, 1) := by decide +kernel
theorem d_Lw_law_561 : decode code 561 = .ok (.iload 4, 2) := by decide +kernel
theorem d_Lw_law_563 : decode code 563 = .ok (.iconst 1, 1) := by decide +kernel
theorem d_Lw_law_564 : decode code 564 = .ok (.iadd, 1) := by decide +kernel
theorem d_Lw_law_565 : decode code 565 = .ok (.iaload, 1) := by decide +kernel
theorem d_Lw_law_566 : decode code 566 = .ok (.aload_n 0, 1) := by decide +kernel
theorem d_Lw_law_567 : decode code 567 = .ok (.iload 4, 2) := by decide +kernel
theorem d_Lw_law_569 : decode code 569 = .ok (.iconst 2, 1) := by decide +kernel
theorem d_Lw_law_570 : decode code 570 = .ok (.iadd, 1) := by decide +kernel
theorem d_Lw_law_571 : decode code 571 = .ok (.iaload, 1) := by decide +kernel
theorem d_Lw_law_572 : decode code 572 = .ok (.aload_n 3, 1) := by decide +kernel
theorem d_Lw_law_573 : decode code 573 = .ok (.invokestatic 98, 3) := by decide +kernel
theorem d_Lw_law_576 : decode code 576 = .ok (.istore 5, 2) := by decide +kernel
theorem d_Lw_law_578 : decode code 578 = .ok (.aload_n 2, 1) := by decide +kernel
theorem d_Lw_law_579 : decode code 579 = .ok (.aload_n 0, 1) := by decide +kernel
theorem d_Lw_law_580 : decode code 580 = .ok (.iload 4, 2) := by decide +kernel
theorem d_Lw_law_582 : decode code 582 = .ok (.iconst 1, 1) := by decide +kernel
theorem d_Lw_law_583 : decode code 583 = .ok (.iadd, 1) := by decide +kernel
theorem d_Lw_law_584 : decode code 584 = .ok (.iaload, 1) := by decide +kernel
theorem d_Lw_law_585 : decode code 585 = .ok (.aload_n 0, 1) := by decide +kernel
theorem d_Lw_law_586 : decode code 586 = .ok (.iload 4, 2) := by decide +kernel
theorem d_Lw_law_588 : decode code 588 = .ok (.iconst 2, 1) := by decide +kernel
theorem d_Lw_law_589 : decode code 589 = .ok (.iadd, 1) := by decide +kernel
theorem d_Lw_law_590 : decode code 590 = .ok (.iaload, 1) := by decide +kernel
theorem d_Lw_law_591 : decode code 591 = .ok (.invokevirtual 101, 3) := by decide +kernel
theorem d_Lw_law_594 : decode code 594 = .ok (.istore 6, 2) := by decide +kernel
theorem d_Lw_law_596 : decode code 596 = .ok (.goto 31, 3) := by decide +kernel
theorem d_Lw_law_599 : decode code 599 = .ok (.aload_n 1, 1) := by decide +kernel
theorem d_Lw_law_600 : decode code 600 = .ok (.aload_n 0, 1) := by decide +kernel
theorem d_Lw_law_601 : decode code 601 = .ok (.iload 4, 2) := by decide +kernel
theorem d_Lw_law_603 : decode code 603 = .ok (.iconst 1, 1) := by decide +kernel
theorem d_Lw_law_604 : decode code 604 = .ok (.iadd, 1) := by decide +kernel
theorem d_Lw_law_605 : decode code 605 = .ok (.iaload, 1) := by decide +kernel
theorem d_Lw_law_606 : decode code 606 = .ok (.aload_n 3, 1) := by decide +kernel
theorem d_Lw_law_607 : decode code 607 = .ok (.invokestatic 102, 3) := by decide +kernel
theorem d_Lw_law_610 : decode code 610 = .ok (.istore 5, 2) := by decide +kernel
theorem d_Lw_law_612 : decode code 612 = .ok (.aload_n 2, 1) := by decide +kernel
theorem d_Lw_law_613 : decode code 613 = .ok (.aload_n 0, 1) := by decide +kernel
theorem d_Lw_law_614 : decode code 614 = .ok (.iload 4, 2) := by decide +kernel
theorem d_Lw_law_616 : decode code 616 = .ok (.iconst 1, 1) := by decide +kernel
theorem d_Lw_law_617 : decode code 617 = .ok (.iadd, 1) := by decide +kernel
theorem d_Lw_law_618 : decode code 618 = .ok (.iaload, 1) := by decide +kernel
theorem d_Lw_law_619 : decode code 619 = .ok (.invokevirtual 104, 3) := by decide +kernel
theorem d_Lw_law_622 : decode code 622 = .ok (.istore 6, 2) := by decide +kernel
theorem d_Lw_law_624 : decode code 624 = .ok (.goto 3, 3) := by decide +kernel
theorem d_Lw_law_627 : decode code 627 = .ok (.iinc 4 6, 3) := by decide +kernel
theorem d_Lw_law_630 : decode code 630 = .ok (.goto (-607), 3) := by decide +kernel
theorem d_Lw_law_633 : decode code 633 = .ok (.iconst 1, 1) := by decide +kernel
theorem d_Lw_law_634 : decode code 634 = .ok (.ireturn, 1) := by decide +kernel
def wp_law_0 (kc ks : Nat) (L : List Nat) (J : Nat → Int64) (I : UI) (R : UR) (y1 y2 y3 y4 y5 : Int32) (K : Nat → Nat → List Nat → (Nat → Int64) → UI → UR → Prop) : Prop :=
  (∃ c1 s2 : Nat, (kc + c1 ≤ 601024 ∧ ks + s2 ≤ 7293034) ∧ wp_Lw_open c1 s2 L J I R y1 (fun r8 J7 L3 I5 R6 => wp_Mo_open I5 R6 y1 (fun r11 I9 R10 => K (kc + c1) (ks + s2) L3 J7 I9 R10)))
set_option maxHeartbeats 4000000 in
set_option maxRecDepth 100000 in
theorem j_law_0 (hfl : l.flags = pinnedFlags ++ [noTraceFlag]) (hY : ∀ o, o ∈ L0 → s.heap.size ≤ A0 o) (hS : va_X b n xs s s.heap) (hbl : b < s.heap.size) (hin1 : vp_in (i + 1) n) (hy1 : xs (i + 1).toNatClampNeg = y1) (hin2 : vp_in (i + 2) n) (hy2 : xs (i + 2).toNatClampNeg = y2) (hin3 : vp_in (i + 3) n) (hy3 : xs (i + 3).toNatClampNeg = y3) (hin4 : vp_in (i + 4) n) (hy4 : xs (i + 4).toNatClampNeg = y4) (hin5 : vp_in (i + 5) n) (hy5 : xs (i + 5).toNatClampNeg = y5) (hk : kc ≤ 601024 ∧ ks ≤ 7293034) (hE : uEx s.heap.size L0 A0 L A) (X : uX p s m #[Value.ref b] c code 7 "FrameFerryLaw" D cc L A t16 t32) (V : uV s D cc L A J I R H locs) (hl : lv_has ls 7 [(0, .ref b), (1, .ref (A 1)), (2, .ref (A 80)), (3, .ref (A 0)), (4, .int i)]) {K : Nat → Nat → List Nat → (Nat → Int64) → UI → UR → Prop} (hK : ∀ (kc ks : Nat) (L : List Nat) (A : Nat → Nat) (J : Nat → Int64) (I : UI) (R : UR) (H : Heap) (locs : List Loc) (ls : Array Slot), kc ≤ 601024 ∧ ks ≤ 7293034 → uEx s.heap.size L0 A0 L A → uX p s m #[Value.ref b] c code 7 "FrameFerryLaw" D cc L A t16 t32 → uV s D cc L A J I R H locs → lv_has ls 7 [(0, .ref b), (1, .ref (A 1)), (2, .ref (A 80)), (3, .ref (A 0)), (4, .int i)] → K kc ks L J I R → W p l e room_1 s m #[Value.ref b] below meth c H locs kc ks (lw_Z below #[Value.ref b] s) (F0 m 627 ls [])) (h : wp_law_0 kc ks L J I R y1 y2 y3 y4 y5 K) : W p l e room_1 s m #[Value.ref b] below meth c H locs kc ks (lw_Z below #[Value.ref b] s) (F0 m 108 ls []) := by
  have hx := X.1
  have hb := X.2.1
  unfold wp_law_0 at h
  refine lv_aload_n (pc := 108) hx hb d_Lw_law_108 rfl (lv_at hl 1 rfl) ?_
  refine lv_aload_n (pc := 109) hx hb d_Lw_law_109 rfl (lv_at hl 0 rfl) ?_
  refine lv_iload (pc := 110) hx hb d_Lw_law_110 (lv_at hl 4 rfl) ?_
  refine lv_iconst (pc := 112) (v := 1) hx hb d_Lw_law_112 (by decide) ?_
  refine lv_iadd (pc := 113) hx hb d_Lw_law_113 ?_
  refine u_sld (pc := 114) X V hE hY hS hbl hin1 hy1 d_Lw_law_114 ?_
  refine lv_aload_n (pc := 115) hx hb d_Lw_law_115 rfl (lv_at hl 3 rfl) ?_
  obtain ⟨c1, s2, hk1, h⟩ := h
  have X0 := X
  refine u_cH (pc := 116) (As := [.ref (A 1), .int y1, .ref (A 0)]) X V hE s_Lw_48 (c_Lw_open l hfl D cc L A J t16 t32 c1 s2 _ _ y1 _ h) ⟨rfl, rfl, Nat.le_of_ble_eq_true rfl, Nat.le_of_ble_eq_true rfl⟩ rfl hl.1 rfl (Nat.le_of_ble_eq_true rfl) d_Lw_law_116 hk1 (fun r8 J7 L3 A4 I5 R6 h hG hE X H locs V => ?_)
  have hk := hk1
  have hl : lv_has ls 7 [(0, .ref b), (1, .ref (A 1)), (2, .ref (A 80)), (3, .ref (A 0)), (4, .int i)] := lv_sub hl [0, 1, 2, 3, 4] rfl
  have ea0 := (hG.2.2.1 1 (X0.fix rfl)).2
  rw [← ea0] at hl
  have ea1 := (hG.2.2.1 80 (X0.fix rfl)).2
  rw [← ea1] at hl
  have ea2 := (hG.2.2.1 0 (X0.fix rfl)).2
  rw [← ea2] at hl
  refine lv_istore (pc := 119) (lv' := [(5, .int r8), (0, .ref b), (1, .ref (A4 1)), (2, .ref (A4 80)), (3, .ref (A4 0)), (4, .int i)]) hx hb d_Lw_law_119 hl (by decide) rfl (fun ls hl => ?_)
  refine lv_aload_n (pc := 121) hx hb d_Lw_law_121 rfl (lv_at hl 3 rfl) ?_
  refine lv_aload_n (pc := 122) hx hb d_Lw_law_122 rfl (lv_at hl 1 rfl) ?_
  refine lv_iload (pc := 123) hx hb d_Lw_law_123 (lv_at hl 5 rfl) ?_
  refine lv_iconst (pc := 125) (v := 1) hx hb d_Lw_law_125 (by decide) ?_
  refine lv_iadd (pc := 126) hx hb d_Lw_law_126 ?_
  refine u_sld (pc := 127) X V hE hY hS hbl hin1 hy1 d_Lw_law_127 ?_
  refine u_cVi (pc := 128) (As := [.int y1]) X V s_Lw_53 (X.fix rfl) rfl rfl rfl (c_Mo_open l D cc L3 A4 J7 t16 t32 _ _ y1 _ h) ⟨rfl, rfl, Nat.le_of_ble_eq_true rfl, Nat.le_of_ble_eq_true rfl⟩ rfl hl.1 rfl (Nat.le_of_ble_eq_true rfl) d_Lw_law_128 hk (fun r11 I9 R10 h H locs V => ?_)
  refine lv_istore (pc := 131) (lv' := [(6, .int r11), (5, .int r8), (0, .ref b), (1, .ref (A4 1)), (2, .ref (A4 80)), (3, .ref (A4 0)), (4, .int i)]) hx hb d_Lw_law_131 hl (by decide) rfl (fun ls hl => ?_)
  refine lv_goto (pc := 133) (tgt := 627) hx hb d_Lw_law_133 (by decide) ?_
  exact hK _ _ L3 A4 J7 I9 R10 H locs ls hk hE X V (lv_sub hl [2, 3, 4, 5, 6] rfl) h
def wp_law_1 (kc ks : Nat) (L : List Nat) (J : Nat → Int64) (I : UI) (R : UR) (y1 y2 y3 y4 y5 : Int32) (K : Nat → Nat → List Nat → (Nat → Int64) → UI → UR → Prop) : Prop :=
  (∃ c1 s2 : Nat, (kc + c1 ≤ 601024 ∧ ks + s2 ≤ 7293034) ∧ wp_Lw_feed c1 s2 L J I R y1 y2 y3 y4 y5 (fun r8 J7 L3 I5 R6 => wp_Mo_feed I5 R6 y1 y2 y3 y4 y5 (fun r11 I9 R10 => K (kc + c1) (ks + s2) L3 J7 I9 R10)))
set_option maxHeartbeats 4000000 in
set_option maxRecDepth 100000 in
theorem j_law_1 (hfl : l.flags = pinnedFlags ++ [noTraceFlag]) (hY : ∀ o, o ∈ L0 → s.heap.size ≤ A0 o) (hS : va_X b n xs s s.heap) (hbl : b < s.heap.size) (hin1 : vp_in (i + 1) n) (hy1 : xs (i + 1).toNatClampNeg = y1) (hin2 : vp_in (i + 2) n) (hy2 : xs (i + 2).toNatClampNeg = y2) (hin3 : vp_in (i + 3) n) (hy3 : xs (i + 3).toNatClampNeg = y3) (hin4 : vp_in (i + 4) n) (hy4 : xs (i + 4).toNatClampNeg = y4) (hin5 : vp_in (i + 5) n) (hy5 : xs (i + 5).toNatClampNeg = y5) (hk : kc ≤ 601024 ∧ ks ≤ 7293034) (hE : uEx s.heap.size L0 A0 L A) (X : uX p s m #[Value.ref b] c code 7 "FrameFerryLaw" D cc L A t16 t32) (V : uV s D cc L A J I R H locs) (hl : lv_has ls 7 [(0, .ref b), (1, .ref (A 1)), (2, .ref (A 80)), (3, .ref (A 0)), (4, .int i)]) {K : Nat → Nat → List Nat → (Nat → Int64) → UI → UR → Prop} (hK : ∀ (kc ks : Nat) (L : List Nat) (A : Nat → Nat) (J : Nat → Int64) (I : UI) (R : UR) (H : Heap) (locs : List Loc) (ls : Array Slot), kc ≤ 601024 ∧ ks ≤ 7293034 → uEx s.heap.size L0 A0 L A → uX p s m #[Value.ref b] c code 7 "FrameFerryLaw" D cc L A t16 t32 → uV s D cc L A J I R H locs → lv_has ls 7 [(0, .ref b), (1, .ref (A 1)), (2, .ref (A 80)), (3, .ref (A 0)), (4, .int i)] → K kc ks L J I R → W p l e room_1 s m #[Value.ref b] below meth c H locs kc ks (lw_Z below #[Value.ref b] s) (F0 m 627 ls [])) (h : wp_law_1 kc ks L J I R y1 y2 y3 y4 y5 K) : W p l e room_1 s m #[Value.ref b] below meth c H locs kc ks (lw_Z below #[Value.ref b] s) (F0 m 136 ls []) := by
  have hx := X.1
  have hb := X.2.1
  unfold wp_law_1 at h
  refine lv_aload_n (pc := 136) hx hb d_Lw_law_136 rfl (lv_at hl 1 rfl) ?_
  refine lv_aload_n (pc := 137) hx hb d_Lw_law_137 rfl (lv_at hl 0 rfl) ?_
  refine lv_iload (pc := 138) hx hb d_Lw_law_138 (lv_at hl 4 rfl) ?_
  refine lv_iconst (pc := 140) (v := 1) hx hb d_Lw_law_140 (by decide) ?_
  refine lv_iadd (pc := 141) hx hb d_Lw_law_141 ?_
  refine u_sld (pc := 142) X V hE hY hS hbl hin1 hy1 d_Lw_law_142 ?_
  refine lv_aload_n (pc := 143) hx hb d_Lw_law_143 rfl (lv_at hl 0 rfl) ?_
  refine lv_iload (pc := 144) hx hb d_Lw_law_144 (lv_at hl 4 rfl) ?_
  refine lv_iconst (pc := 146) (v := 2) hx hb d_Lw_law_146 (by decide) ?_
  refine lv_iadd (pc := 147) hx hb d_Lw_law_147 ?_
  refine u_sld (pc := 148) X V hE hY hS hbl hin2 hy2 d_Lw_law_148 ?_
  refine lv_aload_n (pc := 149) hx hb d_Lw_law_149 rfl (lv_at hl 0 rfl) ?_
  refine lv_iload (pc := 150) hx hb d_Lw_law_150 (lv_at hl 4 rfl) ?_
  refine lv_iconst (pc := 152) (v := 3) hx hb d_Lw_law_152 (by decide) ?_
  refine lv_iadd (pc := 153) hx hb d_Lw_law_153 ?_
  refine u_sld (pc := 154) X V hE hY hS hbl hin3 hy3 d_Lw_law_154 ?_
  refine lv_aload_n (pc := 155) hx hb d_Lw_law_155 rfl (lv_at hl 0 rfl) ?_
  refine lv_iload (pc := 156) hx hb d_Lw_law_156 (lv_at hl 4 rfl) ?_
  refine lv_iconst (pc := 158) (v := 4) hx hb d_Lw_law_158 (by decide) ?_
  refine lv_iadd (pc := 159) hx hb d_Lw_law_159 ?_
  refine u_sld (pc := 160) X V hE hY hS hbl hin4 hy4 d_Lw_law_160 ?_
  refine lv_aload_n (pc := 161) hx hb d_Lw_law_161 rfl (lv_at hl 0 rfl) ?_
  refine lv_iload (pc := 162) hx hb d_Lw_law_162 (lv_at hl 4 rfl) ?_
  refine lv_iconst (pc := 164) (v := 5) hx hb d_Lw_law_164 (by decide) ?_
  refine lv_iadd (pc := 165) hx hb d_Lw_law_165 ?_
  refine u_sld (pc := 166) X V hE hY hS hbl hin5 hy5 d_Lw_law_166 ?_
  refine lv_aload_n (pc := 167) hx hb d_Lw_law_167 rfl (lv_at hl 3 rfl) ?_
  obtain ⟨c1, s2, hk1, h⟩ := h
  have X0 := X
  refine u_cH (pc := 168) (As := [.ref (A 1), .int y1, .int y2, .int y3, .int y4, .int y5, .ref (A 0)]) X V hE s_Lw_54 (c_Lw_feed l hfl D cc L A J t16 t32 c1 s2 _ _ y1 y2 y3 y4 y5 _ h) ⟨rfl, rfl, Nat.le_of_ble_eq_true rfl, Nat.le_of_ble_eq_true rfl⟩ rfl hl.1 rfl (Nat.le_of_ble_eq_true rfl) d_Lw_law_168 hk1 (fun r8 J7 L3 A4 I5 R6 h hG hE X H locs V => ?_)
  have hk := hk1
  have hl : lv_has ls 7 [(0, .ref b), (1, .ref (A 1)), (2, .ref (A 80)), (3, .ref (A 0)), (4, .int i)] := lv_sub hl [0, 1, 2, 3, 4] rfl
  have ea0 := (hG.2.2.1 1 (X0.fix rfl)).2
  rw [← ea0] at hl
  have ea1 := (hG.2.2.1 80 (X0.fix rfl)).2
  rw [← ea1] at hl
  have ea2 := (hG.2.2.1 0 (X0.fix rfl)).2
  rw [← ea2] at hl
  refine lv_istore (pc := 171) (lv' := [(5, .int r8), (0, .ref b), (1, .ref (A4 1)), (2, .ref (A4 80)), (3, .ref (A4 0)), (4, .int i)]) hx hb d_Lw_law_171 hl (by decide) rfl (fun ls hl => ?_)
  refine lv_aload_n (pc := 173) hx hb d_Lw_law_173 rfl (lv_at hl 3 rfl) ?_
  refine lv_aload_n (pc := 174) hx hb d_Lw_law_174 rfl (lv_at hl 1 rfl) ?_
  refine lv_iload (pc := 175) hx hb d_Lw_law_175 (lv_at hl 5 rfl) ?_
  refine lv_iconst (pc := 177) (v := 1) hx hb d_Lw_law_177 (by decide) ?_
  refine lv_iadd (pc := 178) hx hb d_Lw_law_178 ?_
  refine u_sld (pc := 179) X V hE hY hS hbl hin1 hy1 d_Lw_law_179 ?_
  refine lv_aload_n (pc := 180) hx hb d_Lw_law_180 rfl (lv_at hl 1 rfl) ?_
  refine lv_iload (pc := 181) hx hb d_Lw_law_181 (lv_at hl 5 rfl) ?_
  refine lv_iconst (pc := 183) (v := 2) hx hb d_Lw_law_183 (by decide) ?_
  refine lv_iadd (pc := 184) hx hb d_Lw_law_184 ?_
  refine u_sld (pc := 185) X V hE hY hS hbl hin2 hy2 d_Lw_law_185 ?_
  refine lv_aload_n (pc := 186) hx hb d_Lw_law_186 rfl (lv_at hl 1 rfl) ?_
  refine lv_iload (pc := 187) hx hb d_Lw_law_187 (lv_at hl 5 rfl) ?_
  refine lv_iconst (pc := 189) (v := 3) hx hb d_Lw_law_189 (by decide) ?_
  refine lv_iadd (pc := 190) hx hb d_Lw_law_190 ?_
  refine u_sld (pc := 191) X V hE hY hS hbl hin3 hy3 d_Lw_law_191 ?_
  refine lv_aload_n (pc := 192) hx hb d_Lw_law_192 rfl (lv_at hl 1 rfl) ?_
  refine lv_iload (pc := 193) hx hb d_Lw_law_193 (lv_at hl 5 rfl) ?_
  refine lv_iconst (pc := 195) (v := 4) hx hb d_Lw_law_195 (by decide) ?_
  refine lv_iadd (pc := 196) hx hb d_Lw_law_196 ?_
  refine u_sld (pc := 197) X V hE hY hS hbl hin4 hy4 d_Lw_law_197 ?_
  refine lv_aload_n (pc := 198) hx hb d_Lw_law_198 rfl (lv_at hl 1 rfl) ?_
  refine lv_iload (pc := 199) hx hb d_Lw_law_199 (lv_at hl 5 rfl) ?_
  refine lv_iconst (pc := 201) (v := 5) hx hb d_Lw_law_201 (by decide) ?_
  refine lv_iadd (pc := 202) hx hb d_Lw_law_202 ?_
  refine u_sld (pc := 203) X V hE hY hS hbl hin5 hy5 d_Lw_law_203 ?_
  refine u_cVi (pc := 204) (As := [.int y1, .int y2, .int y3, .int y4, .int y5]) X V s_Lw_57 (X.fix rfl) rfl rfl rfl (c_Mo_feed l D cc L3 A4 J7 t16 t32 _ _ y1 y2 y3 y4 y5 _ h) ⟨rfl, rfl, Nat.le_of_ble_eq_true rfl, Nat.le_of_ble_eq_true rfl⟩ rfl hl.1 rfl (Nat.le_of_ble_eq_true rfl) d_Lw_law_204 hk (fun r11 I9 R10 h H locs V => ?_)
  refine lv_istore (pc := 207) (lv' := [(6, .int r11), (5, .int r8), (0, .ref b), (1, .ref (A4 1)), (2, .ref (A4 80)), (3, .ref (A4 0)), (4, .int i)]) hx hb d_Lw_law_207 hl (by decide) rfl (fun ls hl => ?_)
  refine lv_goto (pc := 209) (tgt := 627) hx hb d_Lw_law_209 (by decide) ?_
  exact hK _ _ L3 A4 J7 I9 R10 H locs ls hk hE X V (lv_sub hl [2, 3, 4, 5, 6] rfl) h
def wp_law_2 (kc ks : Nat) (L : List Nat) (J : Nat → Int64) (I : UI) (R : UR) (y1 y2 y3 y4 y5 : Int32) (K : Nat → Nat → List Nat → (Nat → Int64) → UI → UR → Prop) : Prop :=
  (∃ c1 s2 : Nat, (kc + c1 ≤ 601024 ∧ ks + s2 ≤ 7293034) ∧ wp_Lw_clear c1 s2 L J I R (fun r8 J7 L3 I5 R6 => wp_Mo_clear I5 R6 (fun r11 I9 R10 => K (kc + c1) (ks + s2) L3 J7 I9 R10)))
set_option maxHeartbeats 4000000 in
set_option maxRecDepth 100000 in
theorem j_law_2 (hfl : l.flags = pinnedFlags ++ [noTraceFlag]) (hY : ∀ o, o ∈ L0 → s.heap.size ≤ A0 o) (hS : va_X b n xs s s.heap) (hbl : b < s.heap.size) (hin1 : vp_in (i + 1) n) (hy1 : xs (i + 1).toNatClampNeg = y1) (hin2 : vp_in (i + 2) n) (hy2 : xs (i + 2).toNatClampNeg = y2) (hin3 : vp_in (i + 3) n) (hy3 : xs (i + 3).toNatClampNeg = y3) (hin4 : vp_in (i + 4) n) (hy4 : xs (i + 4).toNatClampNeg = y4) (hin5 : vp_in (i + 5) n) (hy5 : xs (i + 5).toNatClampNeg = y5) (hk : kc ≤ 601024 ∧ ks ≤ 7293034) (hE : uEx s.heap.size L0 A0 L A) (X : uX p s m #[Value.ref b] c code 7 "FrameFerryLaw" D cc L A t16 t32) (V : uV s D cc L A J I R H locs) (hl : lv_has ls 7 [(0, .ref b), (1, .ref (A 1)), (2, .ref (A 80)), (3, .ref (A 0)), (4, .int i)]) {K : Nat → Nat → List Nat → (Nat → Int64) → UI → UR → Prop} (hK : ∀ (kc ks : Nat) (L : List Nat) (A : Nat → Nat) (J : Nat → Int64) (I : UI) (R : UR) (H : Heap) (locs : List Loc) (ls : Array Slot), kc ≤ 601024 ∧ ks ≤ 7293034 → uEx s.heap.size L0 A0 L A → uX p s m #[Value.ref b] c code 7 "FrameFerryLaw" D cc L A t16 t32 → uV s D cc L A J I R H locs → lv_has ls 7 [(0, .ref b), (1, .ref (A 1)), (2, .ref (A 80)), (3, .ref (A 0)), (4, .int i)] → K kc ks L J I R → W p l e room_1 s m #[Value.ref b] below meth c H locs kc ks (lw_Z below #[Value.ref b] s) (F0 m 627 ls [])) (h : wp_law_2 kc ks L J I R y1 y2 y3 y4 y5 K) : W p l e room_1 s m #[Value.ref b] below meth c H locs kc ks (lw_Z below #[Value.ref b] s) (F0 m 212 ls []) := by
  have hx := X.1
  have hb := X.2.1
  unfold wp_law_2 at h
  refine lv_aload_n (pc := 212) hx hb d_Lw_law_212 rfl (lv_at hl 1 rfl) ?_
  refine lv_aload_n (pc := 213) hx hb d_Lw_law_213 rfl (lv_at hl 3 rfl) ?_
  obtain ⟨c1, s2, hk1, h⟩ := h
  have X0 := X
  refine u_cH (pc := 214) (As := [.ref (A 1), .ref (A 0)]) X V hE s_Lw_58 (c_Lw_clear l hfl D cc L A J t16 t32 c1 s2 _ _  _ h) ⟨rfl, rfl, Nat.le_of_ble_eq_true rfl, Nat.le_of_ble_eq_true rfl⟩ rfl hl.1 rfl (Nat.le_of_ble_eq_true rfl) d_Lw_law_214 hk1 (fun r8 J7 L3 A4 I5 R6 h hG hE X H locs V => ?_)
  have hk := hk1
  have hl : lv_has ls 7 [(0, .ref b), (1, .ref (A 1)), (2, .ref (A 80)), (3, .ref (A 0)), (4, .int i)] := lv_sub hl [0, 1, 2, 3, 4] rfl
  have ea0 := (hG.2.2.1 1 (X0.fix rfl)).2
  rw [← ea0] at hl
  have ea1 := (hG.2.2.1 80 (X0.fix rfl)).2
  rw [← ea1] at hl
  have ea2 := (hG.2.2.1 0 (X0.fix rfl)).2
  rw [← ea2] at hl
  refine lv_istore (pc := 217) (lv' := [(5, .int r8), (0, .ref b), (1, .ref (A4 1)), (2, .ref (A4 80)), (3, .ref (A4 0)), (4, .int i)]) hx hb d_Lw_law_217 hl (by decide) rfl (fun ls hl => ?_)
  refine lv_aload_n (pc := 219) hx hb d_Lw_law_219 rfl (lv_at hl 3 rfl) ?_
  refine u_cVi (pc := 220) (As := []) X V s_Lw_61 (X.fix rfl) rfl rfl rfl (c_Mo_clear l D cc L3 A4 J7 t16 t32 _ _  _ h) ⟨rfl, rfl, Nat.le_of_ble_eq_true rfl, Nat.le_of_ble_eq_true rfl⟩ rfl hl.1 rfl (Nat.le_of_ble_eq_true rfl) d_Lw_law_220 hk (fun r11 I9 R10 h H locs V => ?_)
  refine lv_istore (pc := 223) (lv' := [(6, .int r11), (5, .int r8), (0, .ref b), (1, .ref (A4 1)), (2, .ref (A4 80)), (3, .ref (A4 0)), (4, .int i)]) hx hb d_Lw_law_223 hl (by decide) rfl (fun ls hl => ?_)
  refine lv_goto (pc := 225) (tgt := 627) hx hb d_Lw_law_225 (by decide) ?_
  exact hK _ _ L3 A4 J7 I9 R10 H locs ls hk hE X V (lv_sub hl [2, 3, 4, 5, 6] rfl) h
def wp_law_3 (kc ks : Nat) (L : List Nat) (J : Nat → Int64) (I : UI) (R : UR) (y1 y2 y3 y4 y5 : Int32) (K : Nat → Nat → List Nat → (Nat → Int64) → UI → UR → Prop) : Prop :=
  (∃ c1 s2 : Nat, (kc + c1 ≤ 601024 ∧ ks + s2 ≤ 7293034) ∧ wp_Lw_start c1 s2 L J I R (nz y1) y2 (fun r8 J7 L3 I5 R6 => wp_Mo_start I5 R6 (nz y1) y2 (fun I9 R10 => wp_Mo_thrown I9 R10 (fun r13 I11 R12 => ((r13 = r8 → K (kc + c1) (ks + s2) L3 J7 I11 R12) ∧ (¬ r13 = r8 → False))))))
set_option maxHeartbeats 4000000 in
set_option maxRecDepth 100000 in
theorem j_law_3 (hfl : l.flags = pinnedFlags ++ [noTraceFlag]) (hY : ∀ o, o ∈ L0 → s.heap.size ≤ A0 o) (hS : va_X b n xs s s.heap) (hbl : b < s.heap.size) (hin1 : vp_in (i + 1) n) (hy1 : xs (i + 1).toNatClampNeg = y1) (hin2 : vp_in (i + 2) n) (hy2 : xs (i + 2).toNatClampNeg = y2) (hin3 : vp_in (i + 3) n) (hy3 : xs (i + 3).toNatClampNeg = y3) (hin4 : vp_in (i + 4) n) (hy4 : xs (i + 4).toNatClampNeg = y4) (hin5 : vp_in (i + 5) n) (hy5 : xs (i + 5).toNatClampNeg = y5) (hk : kc ≤ 601024 ∧ ks ≤ 7293034) (hE : uEx s.heap.size L0 A0 L A) (X : uX p s m #[Value.ref b] c code 7 "FrameFerryLaw" D cc L A t16 t32) (V : uV s D cc L A J I R H locs) (hl : lv_has ls 7 [(0, .ref b), (1, .ref (A 1)), (2, .ref (A 80)), (3, .ref (A 0)), (4, .int i)]) {K : Nat → Nat → List Nat → (Nat → Int64) → UI → UR → Prop} (hK : ∀ (kc ks : Nat) (L : List Nat) (A : Nat → Nat) (J : Nat → Int64) (I : UI) (R : UR) (H : Heap) (locs : List Loc) (ls : Array Slot), kc ≤ 601024 ∧ ks ≤ 7293034 → uEx s.heap.size L0 A0 L A → uX p s m #[Value.ref b] c code 7 "FrameFerryLaw" D cc L A t16 t32 → uV s D cc L A J I R H locs → lv_has ls 7 [(0, .ref b), (1, .ref (A 1)), (2, .ref (A 80)), (3, .ref (A 0)), (4, .int i)] → K kc ks L J I R → W p l e room_1 s m #[Value.ref b] below meth c H locs kc ks (lw_Z below #[Value.ref b] s) (F0 m 627 ls [])) (h : wp_law_3 kc ks L J I R y1 y2 y3 y4 y5 K) : W p l e room_1 s m #[Value.ref b] below meth c H locs kc ks (lw_Z below #[Value.ref b] s) (F0 m 228 ls []) := by
  have hx := X.1
  have hb := X.2.1
  unfold wp_law_3 at h
  refine lv_aload_n (pc := 228) hx hb d_Lw_law_228 rfl (lv_at hl 1 rfl) ?_
  refine lv_aload_n (pc := 229) hx hb d_Lw_law_229 rfl (lv_at hl 0 rfl) ?_
  refine lv_iload (pc := 230) hx hb d_Lw_law_230 (lv_at hl 4 rfl) ?_
  refine lv_iconst (pc := 232) (v := 1) hx hb d_Lw_law_232 (by decide) ?_
  refine lv_iadd (pc := 233) hx hb d_Lw_law_233 ?_
  refine u_sld (pc := 234) X V hE hY hS hbl hin1 hy1 d_Lw_law_234 ?_
  refine lv_nz (pc := 235) hx hb d_Lw_law_235 d_Lw_law_238 d_Lw_law_239 d_Lw_law_242 ?_
  refine lv_aload_n (pc := 243) hx hb d_Lw_law_243 rfl (lv_at hl 0 rfl) ?_
  refine lv_iload (pc := 244) hx hb d_Lw_law_244 (lv_at hl 4 rfl) ?_
  refine lv_iconst (pc := 246) (v := 2) hx hb d_Lw_law_246 (by decide) ?_
  refine lv_iadd (pc := 247) hx hb d_Lw_law_247 ?_
  refine u_sld (pc := 248) X V hE hY hS hbl hin2 hy2 d_Lw_law_248 ?_
  obtain ⟨c1, s2, hk1, h⟩ := h
  have X0 := X
  refine u_cH (pc := 249) (As := [.ref (A 1), .int (nz y1), .int y2]) X V hE s_Lw_62 (c_Lw_start l hfl D cc L A J t16 t32 c1 s2 _ _ (nz y1) y2 _ h) ⟨rfl, rfl, Nat.le_of_ble_eq_true rfl, Nat.le_of_ble_eq_true rfl⟩ rfl hl.1 rfl (Nat.le_of_ble_eq_true rfl) d_Lw_law_249 hk1 (fun r8 J7 L3 A4 I5 R6 h hG hE X H locs V => ?_)
  have hk := hk1
  have hl : lv_has ls 7 [(0, .ref b), (1, .ref (A 1)), (2, .ref (A 80)), (3, .ref (A 0)), (4, .int i)] := lv_sub hl [0, 1, 2, 3, 4] rfl
  have ea0 := (hG.2.2.1 1 (X0.fix rfl)).2
  rw [← ea0] at hl
  have ea1 := (hG.2.2.1 80 (X0.fix rfl)).2
  rw [← ea1] at hl
  have ea2 := (hG.2.2.1 0 (X0.fix rfl)).2
  rw [← ea2] at hl
  refine lv_istore (pc := 252) (lv' := [(5, .int r8), (0, .ref b), (1, .ref (A4 1)), (2, .ref (A4 80)), (3, .ref (A4 0)), (4, .int i)]) hx hb d_Lw_law_252 hl (by decide) rfl (fun ls hl => ?_)
  refine lv_aload_n (pc := 254) hx hb d_Lw_law_254 rfl (lv_at hl 3 rfl) ?_
  refine lv_aload_n (pc := 255) hx hb d_Lw_law_255 rfl (lv_at hl 1 rfl) ?_
  refine lv_iload (pc := 256) hx hb d_Lw_law_256 (lv_at hl 5 rfl) ?_
  refine lv_iconst (pc := 258) (v := 1) hx hb d_Lw_law_258 (by decide) ?_
  refine lv_iadd (pc := 259) hx hb d_Lw_law_259 ?_
  refine u_sld (pc := 260) X V hE hY hS hbl hin1 hy1 d_Lw_law_260 ?_
  refine lv_nz (pc := 261) hx hb d_Lw_law_261 d_Lw_law_264 d_Lw_law_265 d_Lw_law_268 ?_
  refine lv_aload_n (pc := 269) hx hb d_Lw_law_269 rfl (lv_at hl 1 rfl) ?_
  refine lv_iload (pc := 270) hx hb d_Lw_law_270 (lv_at hl 5 rfl) ?_
  refine lv_iconst (pc := 272) (v := 2) hx hb d_Lw_law_272 (by decide) ?_
  refine lv_iadd (pc := 273) hx hb d_Lw_law_273 ?_
  refine u_sld (pc := 274) X V hE hY hS hbl hin2 hy2 d_Lw_law_274 ?_
  refine u_cVv (pc := 275) (As := [.int (nz y1), .int y2]) X V s_Lw_65 (X.fix rfl) rfl rfl rfl (c_Mo_start l D cc L3 A4 J7 t16 t32 _ _ (nz y1) y2 _ h) ⟨rfl, rfl, Nat.le_of_ble_eq_true rfl, Nat.le_of_ble_eq_true rfl⟩ rfl hl.1 rfl (Nat.le_of_ble_eq_true rfl) d_Lw_law_275 hk (fun I9 R10 h H locs V => ?_)
  refine lv_aload_n (pc := 278) hx hb d_Lw_law_278 rfl (lv_at hl 3 rfl) ?_
  refine u_cVi (pc := 279) (As := []) X V s_Lw_66 (X.fix rfl) rfl rfl rfl (c_Mo_thrown l D cc L3 A4 J7 t16 t32 _ _  _ h) ⟨rfl, rfl, Nat.le_of_ble_eq_true rfl, Nat.le_of_ble_eq_true rfl⟩ rfl hl.1 rfl (Nat.le_of_ble_eq_true rfl) d_Lw_law_279 hk (fun r13 I11 R12 h H locs V => ?_)
  refine lv_iload (pc := 282) hx hb d_Lw_law_282 (lv_at hl 0 rfl) ?_
  refine lv_icmp_eq (pc := 284) (tgt := 289) hx hb d_Lw_law_284 (by decide) (fun hc => ?_) (fun hc => ?_)
  · have h := h.1 hc
    refine lv_goto (pc := 289) (tgt := 627) hx hb d_Lw_law_289 (by decide) ?_
    exact hK _ _ L3 A4 J7 I11 R12 H locs ls hk hE X V (lv_sub hl [1, 2, 3, 4, 5] rfl) h
  · have h := h.2 hc
    refine lv_iconst (pc := 287) (v := 0) hx hb d_Lw_law_287 (by decide) ?_
    exact False.elim h
def wp_law_4 (kc ks : Nat) (L : List Nat) (J : Nat → Int64) (I : UI) (R : UR) (y1 y2 y3 y4 y5 : Int32) (K : Nat → Nat → List Nat → (Nat → Int64) → UI → UR → Prop) : Prop :=
  wp_FF_sender L I R (fun r3 I1 R2 => wp_Mo_sender I1 R2 (fun r6 I4 R5 => K kc ks L J I4 R5))
set_option maxHeartbeats 4000000 in
set_option maxRecDepth 100000 in
theorem j_law_4 (hfl : l.flags = pinnedFlags ++ [noTraceFlag]) (hY : ∀ o, o ∈ L0 → s.heap.size ≤ A0 o) (hS : va_X b n xs s s.heap) (hbl : b < s.heap.size) (hin1 : vp_in (i + 1) n) (hy1 : xs (i + 1).toNatClampNeg = y1) (hin2 : vp_in (i + 2) n) (hy2 : xs (i + 2).toNatClampNeg = y2) (hin3 : vp_in (i + 3) n) (hy3 : xs (i + 3).toNatClampNeg = y3) (hin4 : vp_in (i + 4) n) (hy4 : xs (i + 4).toNatClampNeg = y4) (hin5 : vp_in (i + 5) n) (hy5 : xs (i + 5).toNatClampNeg = y5) (hk : kc ≤ 601024 ∧ ks ≤ 7293034) (hE : uEx s.heap.size L0 A0 L A) (X : uX p s m #[Value.ref b] c code 7 "FrameFerryLaw" D cc L A t16 t32) (V : uV s D cc L A J I R H locs) (hl : lv_has ls 7 [(0, .ref b), (1, .ref (A 1)), (2, .ref (A 80)), (3, .ref (A 0)), (4, .int i)]) {K : Nat → Nat → List Nat → (Nat → Int64) → UI → UR → Prop} (hK : ∀ (kc ks : Nat) (L : List Nat) (A : Nat → Nat) (J : Nat → Int64) (I : UI) (R : UR) (H : Heap) (locs : List Loc) (ls : Array Slot), kc ≤ 601024 ∧ ks ≤ 7293034 → uEx s.heap.size L0 A0 L A → uX p s m #[Value.ref b] c code 7 "FrameFerryLaw" D cc L A t16 t32 → uV s D cc L A J I R H locs → lv_has ls 7 [(0, .ref b), (1, .ref (A 1)), (2, .ref (A 80)), (3, .ref (A 0)), (4, .int i)] → K kc ks L J I R → W p l e room_1 s m #[Value.ref b] below meth c H locs kc ks (lw_Z below #[Value.ref b] s) (F0 m 627 ls [])) (h : wp_law_4 kc ks L J I R y1 y2 y3 y4 y5 K) : W p l e room_1 s m #[Value.ref b] below meth c H locs kc ks (lw_Z below #[Value.ref b] s) (F0 m 292 ls []) := by
  have hx := X.1
  have hb := X.2.1
  unfold wp_law_4 at h
  refine lv_aload_n (pc := 292) hx hb d_Lw_law_292 rfl (lv_at hl 1 rfl) ?_
  refine u_cVi (pc := 293) (As := []) X V s_Lw_69 (X.fix rfl) rfl rfl rfl (c_FF_sender l D cc L A J t16 t32 _ _  _ h) ⟨rfl, rfl, Nat.le_of_ble_eq_true rfl, Nat.le_of_ble_eq_true rfl⟩ rfl hl.1 rfl (Nat.le_of_ble_eq_true rfl) d_Lw_law_293 hk (fun r3 I1 R2 h H locs V => ?_)
  refine lv_pop (pc := 296) hx hb d_Lw_law_296 rfl ?_
  refine lv_aload_n (pc := 297) hx hb d_Lw_law_297 rfl (lv_at hl 2 rfl) ?_
  refine u_cVi (pc := 298) (As := []) X V s_Lw_72 (X.fix rfl) rfl rfl rfl (c_Mo_sender l D cc L A J t16 t32 _ _  _ h) ⟨rfl, rfl, Nat.le_of_ble_eq_true rfl, Nat.le_of_ble_eq_true rfl⟩ rfl hl.1 rfl (Nat.le_of_ble_eq_true rfl) d_Lw_law_298 hk (fun r6 I4 R5 h H locs V => ?_)
  refine lv_pop (pc := 301) hx hb d_Lw_law_301 rfl ?_
  refine lv_goto (pc := 302) (tgt := 627) hx hb d_Lw_law_302 (by decide) ?_
  exact hK _ _ L A J I4 R5 H locs ls hk hE X V (lv_sub hl [0, 1, 2, 3, 4] rfl) h
def wp_law_5 (kc ks : Nat) (L : List Nat) (J : Nat → Int64) (I : UI) (R : UR) (y1 y2 y3 y4 y5 : Int32) (K : Nat → Nat → List Nat → (Nat → Int64) → UI → UR → Prop) : Prop :=
  (∃ c1 s2 : Nat, (kc + c1 ≤ 601024 ∧ ks + s2 ≤ 7293034) ∧ wp_FF_receiver c1 s2 L I R (fun r7 L3 I5 R6 => wp_Mo_receiver I5 R6 (fun r10 I8 R9 => K (kc + c1) (ks + s2) L3 J I8 R9)))
set_option maxHeartbeats 4000000 in
set_option maxRecDepth 100000 in
theorem j_law_5 (hfl : l.flags = pinnedFlags ++ [noTraceFlag]) (hY : ∀ o, o ∈ L0 → s.heap.size ≤ A0 o) (hS : va_X b n xs s s.heap) (hbl : b < s.heap.size) (hin1 : vp_in (i + 1) n) (hy1 : xs (i + 1).toNatClampNeg = y1) (hin2 : vp_in (i + 2) n) (hy2 : xs (i + 2).toNatClampNeg = y2) (hin3 : vp_in (i + 3) n) (hy3 : xs (i + 3).toNatClampNeg = y3) (hin4 : vp_in (i + 4) n) (hy4 : xs (i + 4).toNatClampNeg = y4) (hin5 : vp_in (i + 5) n) (hy5 : xs (i + 5).toNatClampNeg = y5) (hk : kc ≤ 601024 ∧ ks ≤ 7293034) (hE : uEx s.heap.size L0 A0 L A) (X : uX p s m #[Value.ref b] c code 7 "FrameFerryLaw" D cc L A t16 t32) (V : uV s D cc L A J I R H locs) (hl : lv_has ls 7 [(0, .ref b), (1, .ref (A 1)), (2, .ref (A 80)), (3, .ref (A 0)), (4, .int i)]) {K : Nat → Nat → List Nat → (Nat → Int64) → UI → UR → Prop} (hK : ∀ (kc ks : Nat) (L : List Nat) (A : Nat → Nat) (J : Nat → Int64) (I : UI) (R : UR) (H : Heap) (locs : List Loc) (ls : Array Slot), kc ≤ 601024 ∧ ks ≤ 7293034 → uEx s.heap.size L0 A0 L A → uX p s m #[Value.ref b] c code 7 "FrameFerryLaw" D cc L A t16 t32 → uV s D cc L A J I R H locs → lv_has ls 7 [(0, .ref b), (1, .ref (A 1)), (2, .ref (A 80)), (3, .ref (A 0)), (4, .int i)] → K kc ks L J I R → W p l e room_1 s m #[Value.ref b] below meth c H locs kc ks (lw_Z below #[Value.ref b] s) (F0 m 627 ls [])) (h : wp_law_5 kc ks L J I R y1 y2 y3 y4 y5 K) : W p l e room_1 s m #[Value.ref b] below meth c H locs kc ks (lw_Z below #[Value.ref b] s) (F0 m 305 ls []) := by
  have hx := X.1
  have hb := X.2.1
  unfold wp_law_5 at h
  refine lv_aload_n (pc := 305) hx hb d_Lw_law_305 rfl (lv_at hl 1 rfl) ?_
  obtain ⟨c1, s2, hk1, h⟩ := h
  have X0 := X
  refine u_cViA (pc := 306) (As := []) X V hE s_Lw_73 (X.fix rfl) rfl rfl rfl (c_FF_receiver l D cc L A J t16 t32 c1 s2 _ _ _ h) ⟨rfl, rfl, Nat.le_of_ble_eq_true rfl, Nat.le_of_ble_eq_true rfl⟩ rfl hl.1 rfl (Nat.le_of_ble_eq_true rfl) d_Lw_law_306 hk1 (fun r7 L3 A4 I5 R6 h hG hE X H locs V => ?_)
  have hk := hk1
  have hl : lv_has ls 7 [(0, .ref b), (1, .ref (A 1)), (2, .ref (A 80)), (3, .ref (A 0)), (4, .int i)] := lv_sub hl [0, 1, 2, 3, 4] rfl
  have ea0 := (hG.2.2.1 1 (X0.fix rfl)).2
  rw [← ea0] at hl
  have ea1 := (hG.2.2.1 80 (X0.fix rfl)).2
  rw [← ea1] at hl
  have ea2 := (hG.2.2.1 0 (X0.fix rfl)).2
  rw [← ea2] at hl
  refine lv_pop (pc := 309) hx hb d_Lw_law_309 rfl ?_
  refine lv_aload_n (pc := 310) hx hb d_Lw_law_310 rfl (lv_at hl 2 rfl) ?_
  refine u_cVi (pc := 311) (As := []) X V s_Lw_76 (X.fix rfl) rfl rfl rfl (c_Mo_receiver l D cc L3 A4 J t16 t32 _ _  _ h) ⟨rfl, rfl, Nat.le_of_ble_eq_true rfl, Nat.le_of_ble_eq_true rfl⟩ rfl hl.1 rfl (Nat.le_of_ble_eq_true rfl) d_Lw_law_311 hk (fun r10 I8 R9 h H locs V => ?_)
  refine lv_pop (pc := 314) hx hb d_Lw_law_314 rfl ?_
  refine lv_goto (pc := 315) (tgt := 627) hx hb d_Lw_law_315 (by decide) ?_
  exact hK _ _ L3 A4 J I8 R9 H locs ls hk hE X V (lv_sub hl [0, 1, 2, 3, 4] rfl) h
def wp_law_6 (kc ks : Nat) (L : List Nat) (J : Nat → Int64) (I : UI) (R : UR) (y1 y2 y3 y4 y5 : Int32) (K : Nat → Nat → List Nat → (Nat → Int64) → UI → UR → Prop) : Prop :=
  wp_FF_late L I R (nz y1) (fun r3 I1 R2 => wp_Mo_late I1 R2 (nz y1) (fun r6 I4 R5 => K kc ks L J I4 R5))
set_option maxHeartbeats 4000000 in
set_option maxRecDepth 100000 in
theorem j_law_6 (hfl : l.flags = pinnedFlags ++ [noTraceFlag]) (hY : ∀ o, o ∈ L0 → s.heap.size ≤ A0 o) (hS : va_X b n xs s s.heap) (hbl : b < s.heap.size) (hin1 : vp_in (i + 1) n) (hy1 : xs (i + 1).toNatClampNeg = y1) (hin2 : vp_in (i + 2) n) (hy2 : xs (i + 2).toNatClampNeg = y2) (hin3 : vp_in (i + 3) n) (hy3 : xs (i + 3).toNatClampNeg = y3) (hin4 : vp_in (i + 4) n) (hy4 : xs (i + 4).toNatClampNeg = y4) (hin5 : vp_in (i + 5) n) (hy5 : xs (i + 5).toNatClampNeg = y5) (hk : kc ≤ 601024 ∧ ks ≤ 7293034) (hE : uEx s.heap.size L0 A0 L A) (X : uX p s m #[Value.ref b] c code 7 "FrameFerryLaw" D cc L A t16 t32) (V : uV s D cc L A J I R H locs) (hl : lv_has ls 7 [(0, .ref b), (1, .ref (A 1)), (2, .ref (A 80)), (3, .ref (A 0)), (4, .int i)]) {K : Nat → Nat → List Nat → (Nat → Int64) → UI → UR → Prop} (hK : ∀ (kc ks : Nat) (L : List Nat) (A : Nat → Nat) (J : Nat → Int64) (I : UI) (R : UR) (H : Heap) (locs : List Loc) (ls : Array Slot), kc ≤ 601024 ∧ ks ≤ 7293034 → uEx s.heap.size L0 A0 L A → uX p s m #[Value.ref b] c code 7 "FrameFerryLaw" D cc L A t16 t32 → uV s D cc L A J I R H locs → lv_has ls 7 [(0, .ref b), (1, .ref (A 1)), (2, .ref (A 80)), (3, .ref (A 0)), (4, .int i)] → K kc ks L J I R → W p l e room_1 s m #[Value.ref b] below meth c H locs kc ks (lw_Z below #[Value.ref b] s) (F0 m 627 ls [])) (h : wp_law_6 kc ks L J I R y1 y2 y3 y4 y5 K) : W p l e room_1 s m #[Value.ref b] below meth c H locs kc ks (lw_Z below #[Value.ref b] s) (F0 m 318 ls []) := by
  have hx := X.1
  have hb := X.2.1
  unfold wp_law_6 at h
  refine lv_aload_n (pc := 318) hx hb d_Lw_law_318 rfl (lv_at hl 1 rfl) ?_
  refine lv_aload_n (pc := 319) hx hb d_Lw_law_319 rfl (lv_at hl 0 rfl) ?_
  refine lv_iload (pc := 320) hx hb d_Lw_law_320 (lv_at hl 4 rfl) ?_
  refine lv_iconst (pc := 322) (v := 1) hx hb d_Lw_law_322 (by decide) ?_
  refine lv_iadd (pc := 323) hx hb d_Lw_law_323 ?_
  refine u_sld (pc := 324) X V hE hY hS hbl hin1 hy1 d_Lw_law_324 ?_
  refine lv_nz (pc := 325) hx hb d_Lw_law_325 d_Lw_law_328 d_Lw_law_329 d_Lw_law_332 ?_
  refine u_cVi (pc := 333) (As := [.int (nz y1)]) X V s_Lw_77 (X.fix rfl) rfl rfl rfl (c_FF_late l D cc L A J t16 t32 _ _ (nz y1) _ h) ⟨rfl, rfl, Nat.le_of_ble_eq_true rfl, Nat.le_of_ble_eq_true rfl⟩ rfl hl.1 rfl (Nat.le_of_ble_eq_true rfl) d_Lw_law_333 hk (fun r3 I1 R2 h H locs V => ?_)
  refine lv_pop (pc := 336) hx hb d_Lw_law_336 rfl ?_
  refine lv_aload_n (pc := 337) hx hb d_Lw_law_337 rfl (lv_at hl 2 rfl) ?_
  refine lv_aload_n (pc := 338) hx hb d_Lw_law_338 rfl (lv_at hl 0 rfl) ?_
  refine lv_iload (pc := 339) hx hb d_Lw_law_339 (lv_at hl 4 rfl) ?_
  refine lv_iconst (pc := 341) (v := 1) hx hb d_Lw_law_341 (by decide) ?_
  refine lv_iadd (pc := 342) hx hb d_Lw_law_342 ?_
  refine u_sld (pc := 343) X V hE hY hS hbl hin1 hy1 d_Lw_law_343 ?_
  refine lv_nz (pc := 344) hx hb d_Lw_law_344 d_Lw_law_347 d_Lw_law_348 d_Lw_law_351 ?_
  refine u_cVi (pc := 352) (As := [.int (nz y1)]) X V s_Lw_81 (X.fix rfl) rfl rfl rfl (c_Mo_late l D cc L A J t16 t32 _ _ (nz y1) _ h) ⟨rfl, rfl, Nat.le_of_ble_eq_true rfl, Nat.le_of_ble_eq_true rfl⟩ rfl hl.1 rfl (Nat.le_of_ble_eq_true rfl) d_Lw_law_352 hk (fun r6 I4 R5 h H locs V => ?_)
  refine lv_pop (pc := 355) hx hb d_Lw_law_355 rfl ?_
  refine lv_goto (pc := 356) (tgt := 627) hx hb d_Lw_law_356 (by decide) ?_
  exact hK _ _ L A J I4 R5 H locs ls hk hE X V (lv_sub hl [0, 1, 2, 3, 4] rfl) h
def wp_law_7 (kc ks : Nat) (L : List Nat) (J : Nat → Int64) (I : UI) (R : UR) (y1 y2 y3 y4 y5 : Int32) (K : Nat → Nat → List Nat → (Nat → Int64) → UI → UR → Prop) : Prop :=
  wp_FF_crash L I R (fun I1 R2 => wp_Mo_crash I1 R2 (fun I3 R4 => K kc ks L J I3 R4))
set_option maxHeartbeats 4000000 in
set_option maxRecDepth 100000 in
theorem j_law_7 (hfl : l.flags = pinnedFlags ++ [noTraceFlag]) (hY : ∀ o, o ∈ L0 → s.heap.size ≤ A0 o) (hS : va_X b n xs s s.heap) (hbl : b < s.heap.size) (hin1 : vp_in (i + 1) n) (hy1 : xs (i + 1).toNatClampNeg = y1) (hin2 : vp_in (i + 2) n) (hy2 : xs (i + 2).toNatClampNeg = y2) (hin3 : vp_in (i + 3) n) (hy3 : xs (i + 3).toNatClampNeg = y3) (hin4 : vp_in (i + 4) n) (hy4 : xs (i + 4).toNatClampNeg = y4) (hin5 : vp_in (i + 5) n) (hy5 : xs (i + 5).toNatClampNeg = y5) (hk : kc ≤ 601024 ∧ ks ≤ 7293034) (hE : uEx s.heap.size L0 A0 L A) (X : uX p s m #[Value.ref b] c code 7 "FrameFerryLaw" D cc L A t16 t32) (V : uV s D cc L A J I R H locs) (hl : lv_has ls 7 [(0, .ref b), (1, .ref (A 1)), (2, .ref (A 80)), (3, .ref (A 0)), (4, .int i)]) {K : Nat → Nat → List Nat → (Nat → Int64) → UI → UR → Prop} (hK : ∀ (kc ks : Nat) (L : List Nat) (A : Nat → Nat) (J : Nat → Int64) (I : UI) (R : UR) (H : Heap) (locs : List Loc) (ls : Array Slot), kc ≤ 601024 ∧ ks ≤ 7293034 → uEx s.heap.size L0 A0 L A → uX p s m #[Value.ref b] c code 7 "FrameFerryLaw" D cc L A t16 t32 → uV s D cc L A J I R H locs → lv_has ls 7 [(0, .ref b), (1, .ref (A 1)), (2, .ref (A 80)), (3, .ref (A 0)), (4, .int i)] → K kc ks L J I R → W p l e room_1 s m #[Value.ref b] below meth c H locs kc ks (lw_Z below #[Value.ref b] s) (F0 m 627 ls [])) (h : wp_law_7 kc ks L J I R y1 y2 y3 y4 y5 K) : W p l e room_1 s m #[Value.ref b] below meth c H locs kc ks (lw_Z below #[Value.ref b] s) (F0 m 359 ls []) := by
  have hx := X.1
  have hb := X.2.1
  unfold wp_law_7 at h
  refine lv_aload_n (pc := 359) hx hb d_Lw_law_359 rfl (lv_at hl 1 rfl) ?_
  refine u_cVv (pc := 360) (As := []) X V s_Lw_82 (X.fix rfl) rfl rfl rfl (c_FF_crash l D cc L A J t16 t32 _ _  _ h) ⟨rfl, rfl, Nat.le_of_ble_eq_true rfl, Nat.le_of_ble_eq_true rfl⟩ rfl hl.1 rfl (Nat.le_of_ble_eq_true rfl) d_Lw_law_360 hk (fun I1 R2 h H locs V => ?_)
  refine lv_aload_n (pc := 363) hx hb d_Lw_law_363 rfl (lv_at hl 2 rfl) ?_
  refine u_cVv (pc := 364) (As := []) X V s_Lw_85 (X.fix rfl) rfl rfl rfl (c_Mo_crash l D cc L A J t16 t32 _ _  _ h) ⟨rfl, rfl, Nat.le_of_ble_eq_true rfl, Nat.le_of_ble_eq_true rfl⟩ rfl hl.1 rfl (Nat.le_of_ble_eq_true rfl) d_Lw_law_364 hk (fun I3 R4 h H locs V => ?_)
  refine lv_goto (pc := 367) (tgt := 627) hx hb d_Lw_law_367 (by decide) ?_
  exact hK _ _ L A J I3 R4 H locs ls hk hE X V (lv_sub hl [0, 1, 2, 3, 4] rfl) h
def wp_law_8 (kc ks : Nat) (L : List Nat) (J : Nat → Int64) (I : UI) (R : UR) (y1 y2 y3 y4 y5 : Int32) (K : Nat → Nat → List Nat → (Nat → Int64) → UI → UR → Prop) : Prop :=
  (∃ c1 s2 : Nat, (kc + c1 ≤ 601024 ∧ ks + s2 ≤ 7293034) ∧ wp_Lw_flip c1 s2 L J I R (nz y1) y2 y3 (fun r8 J7 L3 I5 R6 => wp_Mo_flip I5 R6 (nz y1) y2 y3 (fun r11 I9 R10 => K (kc + c1) (ks + s2) L3 J7 I9 R10)))
set_option maxHeartbeats 4000000 in
set_option maxRecDepth 100000 in
theorem j_law_8 (hfl : l.flags = pinnedFlags ++ [noTraceFlag]) (hY : ∀ o, o ∈ L0 → s.heap.size ≤ A0 o) (hS : va_X b n xs s s.heap) (hbl : b < s.heap.size) (hin1 : vp_in (i + 1) n) (hy1 : xs (i + 1).toNatClampNeg = y1) (hin2 : vp_in (i + 2) n) (hy2 : xs (i + 2).toNatClampNeg = y2) (hin3 : vp_in (i + 3) n) (hy3 : xs (i + 3).toNatClampNeg = y3) (hin4 : vp_in (i + 4) n) (hy4 : xs (i + 4).toNatClampNeg = y4) (hin5 : vp_in (i + 5) n) (hy5 : xs (i + 5).toNatClampNeg = y5) (hk : kc ≤ 601024 ∧ ks ≤ 7293034) (hE : uEx s.heap.size L0 A0 L A) (X : uX p s m #[Value.ref b] c code 7 "FrameFerryLaw" D cc L A t16 t32) (V : uV s D cc L A J I R H locs) (hl : lv_has ls 7 [(0, .ref b), (1, .ref (A 1)), (2, .ref (A 80)), (3, .ref (A 0)), (4, .int i)]) {K : Nat → Nat → List Nat → (Nat → Int64) → UI → UR → Prop} (hK : ∀ (kc ks : Nat) (L : List Nat) (A : Nat → Nat) (J : Nat → Int64) (I : UI) (R : UR) (H : Heap) (locs : List Loc) (ls : Array Slot), kc ≤ 601024 ∧ ks ≤ 7293034 → uEx s.heap.size L0 A0 L A → uX p s m #[Value.ref b] c code 7 "FrameFerryLaw" D cc L A t16 t32 → uV s D cc L A J I R H locs → lv_has ls 7 [(0, .ref b), (1, .ref (A 1)), (2, .ref (A 80)), (3, .ref (A 0)), (4, .int i)] → K kc ks L J I R → W p l e room_1 s m #[Value.ref b] below meth c H locs kc ks (lw_Z below #[Value.ref b] s) (F0 m 627 ls [])) (h : wp_law_8 kc ks L J I R y1 y2 y3 y4 y5 K) : W p l e room_1 s m #[Value.ref b] below meth c H locs kc ks (lw_Z below #[Value.ref b] s) (F0 m 370 ls []) := by
  have hx := X.1
  have hb := X.2.1
  unfold wp_law_8 at h
  refine lv_aload_n (pc := 370) hx hb d_Lw_law_370 rfl (lv_at hl 1 rfl) ?_
  refine lv_aload_n (pc := 371) hx hb d_Lw_law_371 rfl (lv_at hl 0 rfl) ?_
  refine lv_iload (pc := 372) hx hb d_Lw_law_372 (lv_at hl 4 rfl) ?_
  refine lv_iconst (pc := 374) (v := 1) hx hb d_Lw_law_374 (by decide) ?_
  refine lv_iadd (pc := 375) hx hb d_Lw_law_375 ?_
  refine u_sld (pc := 376) X V hE hY hS hbl hin1 hy1 d_Lw_law_376 ?_
  refine lv_nz (pc := 377) hx hb d_Lw_law_377 d_Lw_law_380 d_Lw_law_381 d_Lw_law_384 ?_
  refine lv_aload_n (pc := 385) hx hb d_Lw_law_385 rfl (lv_at hl 0 rfl) ?_
  refine lv_iload (pc := 386) hx hb d_Lw_law_386 (lv_at hl 4 rfl) ?_
  refine lv_iconst (pc := 388) (v := 2) hx hb d_Lw_law_388 (by decide) ?_
  refine lv_iadd (pc := 389) hx hb d_Lw_law_389 ?_
  refine u_sld (pc := 390) X V hE hY hS hbl hin2 hy2 d_Lw_law_390 ?_
  refine lv_aload_n (pc := 391) hx hb d_Lw_law_391 rfl (lv_at hl 0 rfl) ?_
  refine lv_iload (pc := 392) hx hb d_Lw_law_392 (lv_at hl 4 rfl) ?_
  refine lv_iconst (pc := 394) (v := 3) hx hb d_Lw_law_394 (by decide) ?_
  refine lv_iadd (pc := 395) hx hb d_Lw_law_395 ?_
  refine u_sld (pc := 396) X V hE hY hS hbl hin3 hy3 d_Lw_law_396 ?_
  refine lv_aload_n (pc := 397) hx hb d_Lw_law_397 rfl (lv_at hl 3 rfl) ?_
  obtain ⟨c1, s2, hk1, h⟩ := h
  have X0 := X
  refine u_cH (pc := 398) (As := [.ref (A 1), .int (nz y1), .int y2, .int y3, .ref (A 0)]) X V hE s_Lw_86 (c_Lw_flip l hfl D cc L A J t16 t32 c1 s2 _ _ (nz y1) y2 y3 _ h) ⟨rfl, rfl, Nat.le_of_ble_eq_true rfl, Nat.le_of_ble_eq_true rfl⟩ rfl hl.1 rfl (Nat.le_of_ble_eq_true rfl) d_Lw_law_398 hk1 (fun r8 J7 L3 A4 I5 R6 h hG hE X H locs V => ?_)
  have hk := hk1
  have hl : lv_has ls 7 [(0, .ref b), (1, .ref (A 1)), (2, .ref (A 80)), (3, .ref (A 0)), (4, .int i)] := lv_sub hl [0, 1, 2, 3, 4] rfl
  have ea0 := (hG.2.2.1 1 (X0.fix rfl)).2
  rw [← ea0] at hl
  have ea1 := (hG.2.2.1 80 (X0.fix rfl)).2
  rw [← ea1] at hl
  have ea2 := (hG.2.2.1 0 (X0.fix rfl)).2
  rw [← ea2] at hl
  refine lv_istore (pc := 401) (lv' := [(5, .int r8), (0, .ref b), (1, .ref (A4 1)), (2, .ref (A4 80)), (3, .ref (A4 0)), (4, .int i)]) hx hb d_Lw_law_401 hl (by decide) rfl (fun ls hl => ?_)
  refine lv_aload_n (pc := 403) hx hb d_Lw_law_403 rfl (lv_at hl 3 rfl) ?_
  refine lv_aload_n (pc := 404) hx hb d_Lw_law_404 rfl (lv_at hl 1 rfl) ?_
  refine lv_iload (pc := 405) hx hb d_Lw_law_405 (lv_at hl 5 rfl) ?_
  refine lv_iconst (pc := 407) (v := 1) hx hb d_Lw_law_407 (by decide) ?_
  refine lv_iadd (pc := 408) hx hb d_Lw_law_408 ?_
  refine u_sld (pc := 409) X V hE hY hS hbl hin1 hy1 d_Lw_law_409 ?_
  refine lv_nz (pc := 410) hx hb d_Lw_law_410 d_Lw_law_413 d_Lw_law_414 d_Lw_law_417 ?_
  refine lv_aload_n (pc := 418) hx hb d_Lw_law_418 rfl (lv_at hl 1 rfl) ?_
  refine lv_iload (pc := 419) hx hb d_Lw_law_419 (lv_at hl 5 rfl) ?_
  refine lv_iconst (pc := 421) (v := 2) hx hb d_Lw_law_421 (by decide) ?_
  refine lv_iadd (pc := 422) hx hb d_Lw_law_422 ?_
  refine u_sld (pc := 423) X V hE hY hS hbl hin2 hy2 d_Lw_law_423 ?_
  refine lv_aload_n (pc := 424) hx hb d_Lw_law_424 rfl (lv_at hl 1 rfl) ?_
  refine lv_iload (pc := 425) hx hb d_Lw_law_425 (lv_at hl 5 rfl) ?_
  refine lv_iconst (pc := 427) (v := 3) hx hb d_Lw_law_427 (by decide) ?_
  refine lv_iadd (pc := 428) hx hb d_Lw_law_428 ?_
  refine u_sld (pc := 429) X V hE hY hS hbl hin3 hy3 d_Lw_law_429 ?_
  refine u_cVi (pc := 430) (As := [.int (nz y1), .int y2, .int y3]) X V s_Lw_89 (X.fix rfl) rfl rfl rfl (c_Mo_flip l D cc L3 A4 J7 t16 t32 _ _ (nz y1) y2 y3 _ h) ⟨rfl, rfl, Nat.le_of_ble_eq_true rfl, Nat.le_of_ble_eq_true rfl⟩ rfl hl.1 rfl (Nat.le_of_ble_eq_true rfl) d_Lw_law_430 hk (fun r11 I9 R10 h H locs V => ?_)
  refine lv_istore (pc := 433) (lv' := [(6, .int r11), (5, .int r8), (0, .ref b), (1, .ref (A4 1)), (2, .ref (A4 80)), (3, .ref (A4 0)), (4, .int i)]) hx hb d_Lw_law_433 hl (by decide) rfl (fun ls hl => ?_)
  refine lv_goto (pc := 435) (tgt := 627) hx hb d_Lw_law_435 (by decide) ?_
  exact hK _ _ L3 A4 J7 I9 R10 H locs ls hk hE X V (lv_sub hl [2, 3, 4, 5, 6] rfl) h
def wp_law_9 (kc ks : Nat) (L : List Nat) (J : Nat → Int64) (I : UI) (R : UR) (y1 y2 y3 y4 y5 : Int32) (K : Nat → Nat → List Nat → (Nat → Int64) → UI → UR → Prop) : Prop :=
  (∃ c1 s2 : Nat, (kc + c1 ≤ 601024 ∧ ks + s2 ≤ 7293034) ∧ wp_Lw_lose c1 s2 L J I R (nz y1) y2 y3 (fun r8 J7 L3 I5 R6 => wp_Mo_lose I5 R6 (nz y1) y2 y3 (fun r11 I9 R10 => K (kc + c1) (ks + s2) L3 J7 I9 R10)))
set_option maxHeartbeats 4000000 in
set_option maxRecDepth 100000 in
theorem j_law_9 (hfl : l.flags = pinnedFlags ++ [noTraceFlag]) (hY : ∀ o, o ∈ L0 → s.heap.size ≤ A0 o) (hS : va_X b n xs s s.heap) (hbl : b < s.heap.size) (hin1 : vp_in (i + 1) n) (hy1 : xs (i + 1).toNatClampNeg = y1) (hin2 : vp_in (i + 2) n) (hy2 : xs (i + 2).toNatClampNeg = y2) (hin3 : vp_in (i + 3) n) (hy3 : xs (i + 3).toNatClampNeg = y3) (hin4 : vp_in (i + 4) n) (hy4 : xs (i + 4).toNatClampNeg = y4) (hin5 : vp_in (i + 5) n) (hy5 : xs (i + 5).toNatClampNeg = y5) (hk : kc ≤ 601024 ∧ ks ≤ 7293034) (hE : uEx s.heap.size L0 A0 L A) (X : uX p s m #[Value.ref b] c code 7 "FrameFerryLaw" D cc L A t16 t32) (V : uV s D cc L A J I R H locs) (hl : lv_has ls 7 [(0, .ref b), (1, .ref (A 1)), (2, .ref (A 80)), (3, .ref (A 0)), (4, .int i)]) {K : Nat → Nat → List Nat → (Nat → Int64) → UI → UR → Prop} (hK : ∀ (kc ks : Nat) (L : List Nat) (A : Nat → Nat) (J : Nat → Int64) (I : UI) (R : UR) (H : Heap) (locs : List Loc) (ls : Array Slot), kc ≤ 601024 ∧ ks ≤ 7293034 → uEx s.heap.size L0 A0 L A → uX p s m #[Value.ref b] c code 7 "FrameFerryLaw" D cc L A t16 t32 → uV s D cc L A J I R H locs → lv_has ls 7 [(0, .ref b), (1, .ref (A 1)), (2, .ref (A 80)), (3, .ref (A 0)), (4, .int i)] → K kc ks L J I R → W p l e room_1 s m #[Value.ref b] below meth c H locs kc ks (lw_Z below #[Value.ref b] s) (F0 m 627 ls [])) (h : wp_law_9 kc ks L J I R y1 y2 y3 y4 y5 K) : W p l e room_1 s m #[Value.ref b] below meth c H locs kc ks (lw_Z below #[Value.ref b] s) (F0 m 438 ls []) := by
  have hx := X.1
  have hb := X.2.1
  unfold wp_law_9 at h
  refine lv_aload_n (pc := 438) hx hb d_Lw_law_438 rfl (lv_at hl 1 rfl) ?_
  refine lv_aload_n (pc := 439) hx hb d_Lw_law_439 rfl (lv_at hl 0 rfl) ?_
  refine lv_iload (pc := 440) hx hb d_Lw_law_440 (lv_at hl 4 rfl) ?_
  refine lv_iconst (pc := 442) (v := 1) hx hb d_Lw_law_442 (by decide) ?_
  refine lv_iadd (pc := 443) hx hb d_Lw_law_443 ?_
  refine u_sld (pc := 444) X V hE hY hS hbl hin1 hy1 d_Lw_law_444 ?_
  refine lv_nz (pc := 445) hx hb d_Lw_law_445 d_Lw_law_448 d_Lw_law_449 d_Lw_law_452 ?_
  refine lv_aload_n (pc := 453) hx hb d_Lw_law_453 rfl (lv_at hl 0 rfl) ?_
  refine lv_iload (pc := 454) hx hb d_Lw_law_454 (lv_at hl 4 rfl) ?_
  refine lv_iconst (pc := 456) (v := 2) hx hb d_Lw_law_456 (by decide) ?_
  refine lv_iadd (pc := 457) hx hb d_Lw_law_457 ?_
  refine u_sld (pc := 458) X V hE hY hS hbl hin2 hy2 d_Lw_law_458 ?_
  refine lv_aload_n (pc := 459) hx hb d_Lw_law_459 rfl (lv_at hl 0 rfl) ?_
  refine lv_iload (pc := 460) hx hb d_Lw_law_460 (lv_at hl 4 rfl) ?_
  refine lv_iconst (pc := 462) (v := 3) hx hb d_Lw_law_462 (by decide) ?_
  refine lv_iadd (pc := 463) hx hb d_Lw_law_463 ?_
  refine u_sld (pc := 464) X V hE hY hS hbl hin3 hy3 d_Lw_law_464 ?_
  refine lv_aload_n (pc := 465) hx hb d_Lw_law_465 rfl (lv_at hl 3 rfl) ?_
  obtain ⟨c1, s2, hk1, h⟩ := h
  have X0 := X
  refine u_cH (pc := 466) (As := [.ref (A 1), .int (nz y1), .int y2, .int y3, .ref (A 0)]) X V hE s_Lw_90 (c_Lw_lose l hfl D cc L A J t16 t32 c1 s2 _ _ (nz y1) y2 y3 _ h) ⟨rfl, rfl, Nat.le_of_ble_eq_true rfl, Nat.le_of_ble_eq_true rfl⟩ rfl hl.1 rfl (Nat.le_of_ble_eq_true rfl) d_Lw_law_466 hk1 (fun r8 J7 L3 A4 I5 R6 h hG hE X H locs V => ?_)
  have hk := hk1
  have hl : lv_has ls 7 [(0, .ref b), (1, .ref (A 1)), (2, .ref (A 80)), (3, .ref (A 0)), (4, .int i)] := lv_sub hl [0, 1, 2, 3, 4] rfl
  have ea0 := (hG.2.2.1 1 (X0.fix rfl)).2
  rw [← ea0] at hl
  have ea1 := (hG.2.2.1 80 (X0.fix rfl)).2
  rw [← ea1] at hl
  have ea2 := (hG.2.2.1 0 (X0.fix rfl)).2
  rw [← ea2] at hl
  refine lv_istore (pc := 469) (lv' := [(5, .int r8), (0, .ref b), (1, .ref (A4 1)), (2, .ref (A4 80)), (3, .ref (A4 0)), (4, .int i)]) hx hb d_Lw_law_469 hl (by decide) rfl (fun ls hl => ?_)
  refine lv_aload_n (pc := 471) hx hb d_Lw_law_471 rfl (lv_at hl 3 rfl) ?_
  refine lv_aload_n (pc := 472) hx hb d_Lw_law_472 rfl (lv_at hl 1 rfl) ?_
  refine lv_iload (pc := 473) hx hb d_Lw_law_473 (lv_at hl 5 rfl) ?_
  refine lv_iconst (pc := 475) (v := 1) hx hb d_Lw_law_475 (by decide) ?_
  refine lv_iadd (pc := 476) hx hb d_Lw_law_476 ?_
  refine u_sld (pc := 477) X V hE hY hS hbl hin1 hy1 d_Lw_law_477 ?_
  refine lv_nz (pc := 478) hx hb d_Lw_law_478 d_Lw_law_481 d_Lw_law_482 d_Lw_law_485 ?_
  refine lv_aload_n (pc := 486) hx hb d_Lw_law_486 rfl (lv_at hl 1 rfl) ?_
  refine lv_iload (pc := 487) hx hb d_Lw_law_487 (lv_at hl 5 rfl) ?_
  refine lv_iconst (pc := 489) (v := 2) hx hb d_Lw_law_489 (by decide) ?_
  refine lv_iadd (pc := 490) hx hb d_Lw_law_490 ?_
  refine u_sld (pc := 491) X V hE hY hS hbl hin2 hy2 d_Lw_law_491 ?_
  refine lv_aload_n (pc := 492) hx hb d_Lw_law_492 rfl (lv_at hl 1 rfl) ?_
  refine lv_iload (pc := 493) hx hb d_Lw_law_493 (lv_at hl 5 rfl) ?_
  refine lv_iconst (pc := 495) (v := 3) hx hb d_Lw_law_495 (by decide) ?_
  refine lv_iadd (pc := 496) hx hb d_Lw_law_496 ?_
  refine u_sld (pc := 497) X V hE hY hS hbl hin3 hy3 d_Lw_law_497 ?_
  refine u_cVi (pc := 498) (As := [.int (nz y1), .int y2, .int y3]) X V s_Lw_92 (X.fix rfl) rfl rfl rfl (c_Mo_lose l D cc L3 A4 J7 t16 t32 _ _ (nz y1) y2 y3 _ h) ⟨rfl, rfl, Nat.le_of_ble_eq_true rfl, Nat.le_of_ble_eq_true rfl⟩ rfl hl.1 rfl (Nat.le_of_ble_eq_true rfl) d_Lw_law_498 hk (fun r11 I9 R10 h H locs V => ?_)
  refine lv_istore (pc := 501) (lv' := [(6, .int r11), (5, .int r8), (0, .ref b), (1, .ref (A4 1)), (2, .ref (A4 80)), (3, .ref (A4 0)), (4, .int i)]) hx hb d_Lw_law_501 hl (by decide) rfl (fun ls hl => ?_)
  refine lv_goto (pc := 503) (tgt := 627) hx hb d_Lw_law_503 (by decide) ?_
  exact hK _ _ L3 A4 J7 I9 R10 H locs ls hk hE X V (lv_sub hl [2, 3, 4, 5, 6] rfl) h
def wp_law_10 (kc ks : Nat) (L : List Nat) (J : Nat → Int64) (I : UI) (R : UR) (y1 y2 y3 y4 y5 : Int32) (K : Nat → Nat → List Nat → (Nat → Int64) → UI → UR → Prop) : Prop :=
  wp_FF_pipe L I R (nz y1) y2 (fun r3 I1 R2 => wp_Mo_pipe I1 R2 (nz y1) y2 (fun r6 I4 R5 => K kc ks L J I4 R5))
set_option maxHeartbeats 4000000 in
set_option maxRecDepth 100000 in
theorem j_law_10 (hfl : l.flags = pinnedFlags ++ [noTraceFlag]) (hY : ∀ o, o ∈ L0 → s.heap.size ≤ A0 o) (hS : va_X b n xs s s.heap) (hbl : b < s.heap.size) (hin1 : vp_in (i + 1) n) (hy1 : xs (i + 1).toNatClampNeg = y1) (hin2 : vp_in (i + 2) n) (hy2 : xs (i + 2).toNatClampNeg = y2) (hin3 : vp_in (i + 3) n) (hy3 : xs (i + 3).toNatClampNeg = y3) (hin4 : vp_in (i + 4) n) (hy4 : xs (i + 4).toNatClampNeg = y4) (hin5 : vp_in (i + 5) n) (hy5 : xs (i + 5).toNatClampNeg = y5) (hk : kc ≤ 601024 ∧ ks ≤ 7293034) (hE : uEx s.heap.size L0 A0 L A) (X : uX p s m #[Value.ref b] c code 7 "FrameFerryLaw" D cc L A t16 t32) (V : uV s D cc L A J I R H locs) (hl : lv_has ls 7 [(0, .ref b), (1, .ref (A 1)), (2, .ref (A 80)), (3, .ref (A 0)), (4, .int i)]) {K : Nat → Nat → List Nat → (Nat → Int64) → UI → UR → Prop} (hK : ∀ (kc ks : Nat) (L : List Nat) (A : Nat → Nat) (J : Nat → Int64) (I : UI) (R : UR) (H : Heap) (locs : List Loc) (ls : Array Slot), kc ≤ 601024 ∧ ks ≤ 7293034 → uEx s.heap.size L0 A0 L A → uX p s m #[Value.ref b] c code 7 "FrameFerryLaw" D cc L A t16 t32 → uV s D cc L A J I R H locs → lv_has ls 7 [(0, .ref b), (1, .ref (A 1)), (2, .ref (A 80)), (3, .ref (A 0)), (4, .int i)] → K kc ks L J I R → W p l e room_1 s m #[Value.ref b] below meth c H locs kc ks (lw_Z below #[Value.ref b] s) (F0 m 627 ls [])) (h : wp_law_10 kc ks L J I R y1 y2 y3 y4 y5 K) : W p l e room_1 s m #[Value.ref b] below meth c H locs kc ks (lw_Z below #[Value.ref b] s) (F0 m 506 ls []) := by
  have hx := X.1
  have hb := X.2.1
  unfold wp_law_10 at h
  refine lv_aload_n (pc := 506) hx hb d_Lw_law_506 rfl (lv_at hl 1 rfl) ?_
  refine lv_aload_n (pc := 507) hx hb d_Lw_law_507 rfl (lv_at hl 0 rfl) ?_
  refine lv_iload (pc := 508) hx hb d_Lw_law_508 (lv_at hl 4 rfl) ?_
  refine lv_iconst (pc := 510) (v := 1) hx hb d_Lw_law_510 (by decide) ?_
  refine lv_iadd (pc := 511) hx hb d_Lw_law_511 ?_
  refine u_sld (pc := 512) X V hE hY hS hbl hin1 hy1 d_Lw_law_512 ?_
  refine lv_nz (pc := 513) hx hb d_Lw_law_513 d_Lw_law_516 d_Lw_law_517 d_Lw_law_520 ?_
  refine lv_aload_n (pc := 521) hx hb d_Lw_law_521 rfl (lv_at hl 0 rfl) ?_
  refine lv_iload (pc := 522) hx hb d_Lw_law_522 (lv_at hl 4 rfl) ?_
  refine lv_iconst (pc := 524) (v := 2) hx hb d_Lw_law_524 (by decide) ?_
  refine lv_iadd (pc := 525) hx hb d_Lw_law_525 ?_
  refine u_sld (pc := 526) X V hE hY hS hbl hin2 hy2 d_Lw_law_526 ?_
  refine u_cVi (pc := 527) (As := [.int (nz y1), .int y2]) X V s_Lw_93 (X.fix rfl) rfl rfl rfl (c_FF_pipe l D cc L A J t16 t32 _ _ (nz y1) y2 _ h) ⟨rfl, rfl, Nat.le_of_ble_eq_true rfl, Nat.le_of_ble_eq_true rfl⟩ rfl hl.1 rfl (Nat.le_of_ble_eq_true rfl) d_Lw_law_527 hk (fun r3 I1 R2 h H locs V => ?_)
  refine lv_pop (pc := 530) hx hb d_Lw_law_530 rfl ?_
  refine lv_aload_n (pc := 531) hx hb d_Lw_law_531 rfl (lv_at hl 2 rfl) ?_
  refine lv_aload_n (pc := 532) hx hb d_Lw_law_532 rfl (lv_at hl 0 rfl) ?_
  refine lv_iload (pc := 533) hx hb d_Lw_law_533 (lv_at hl 4 rfl) ?_
  refine lv_iconst (pc := 535) (v := 1) hx hb d_Lw_law_535 (by decide) ?_
  refine lv_iadd (pc := 536) hx hb d_Lw_law_536 ?_
  refine u_sld (pc := 537) X V hE hY hS hbl hin1 hy1 d_Lw_law_537 ?_
  refine lv_nz (pc := 538) hx hb d_Lw_law_538 d_Lw_law_541 d_Lw_law_542 d_Lw_law_545 ?_
  refine lv_aload_n (pc := 546) hx hb d_Lw_law_546 rfl (lv_at hl 0 rfl) ?_
  refine lv_iload (pc := 547) hx hb d_Lw_law_547 (lv_at hl 4 rfl) ?_
  refine lv_iconst (pc := 549) (v := 2) hx hb d_Lw_law_549 (by decide) ?_
  refine lv_iadd (pc := 550) hx hb d_Lw_law_550 ?_
  refine u_sld (pc := 551) X V hE hY hS hbl hin2 hy2 d_Lw_law_551 ?_
  refine u_cVi (pc := 552) (As := [.int (nz y1), .int y2]) X V s_Lw_97 (X.fix rfl) rfl rfl rfl (c_Mo_pipe l D cc L A J t16 t32 _ _ (nz y1) y2 _ h) ⟨rfl, rfl, Nat.le_of_ble_eq_true rfl, Nat.le_of_ble_eq_true rfl⟩ rfl hl.1 rfl (Nat.le_of_ble_eq_true rfl) d_Lw_law_552 hk (fun r6 I4 R5 h H locs V => ?_)
  refine lv_pop (pc := 555) hx hb d_Lw_law_555 rfl ?_
  refine lv_goto (pc := 556) (tgt := 627) hx hb d_Lw_law_556 (by decide) ?_
  exact hK _ _ L A J I4 R5 H locs ls hk hE X V (lv_sub hl [0, 1, 2, 3, 4] rfl) h
def wp_law_11 (kc ks : Nat) (L : List Nat) (J : Nat → Int64) (I : UI) (R : UR) (y1 y2 y3 y4 y5 : Int32) (K : Nat → Nat → List Nat → (Nat → Int64) → UI → UR → Prop) : Prop :=
  (∃ c1 s2 : Nat, (kc + c1 ≤ 601024 ∧ ks + s2 ≤ 7293034) ∧ wp_Lw_got c1 s2 L J I R y1 y2 (fun r8 J7 L3 I5 R6 => wp_Mo_got I5 R6 y1 y2 (fun r11 I9 R10 => K (kc + c1) (ks + s2) L3 J7 I9 R10)))
set_option maxHeartbeats 4000000 in
set_option maxRecDepth 100000 in
theorem j_law_11 (hfl : l.flags = pinnedFlags ++ [noTraceFlag]) (hY : ∀ o, o ∈ L0 → s.heap.size ≤ A0 o) (hS : va_X b n xs s s.heap) (hbl : b < s.heap.size) (hin1 : vp_in (i + 1) n) (hy1 : xs (i + 1).toNatClampNeg = y1) (hin2 : vp_in (i + 2) n) (hy2 : xs (i + 2).toNatClampNeg = y2) (hin3 : vp_in (i + 3) n) (hy3 : xs (i + 3).toNatClampNeg = y3) (hin4 : vp_in (i + 4) n) (hy4 : xs (i + 4).toNatClampNeg = y4) (hin5 : vp_in (i + 5) n) (hy5 : xs (i + 5).toNatClampNeg = y5) (hk : kc ≤ 601024 ∧ ks ≤ 7293034) (hE : uEx s.heap.size L0 A0 L A) (X : uX p s m #[Value.ref b] c code 7 "FrameFerryLaw" D cc L A t16 t32) (V : uV s D cc L A J I R H locs) (hl : lv_has ls 7 [(0, .ref b), (1, .ref (A 1)), (2, .ref (A 80)), (3, .ref (A 0)), (4, .int i)]) {K : Nat → Nat → List Nat → (Nat → Int64) → UI → UR → Prop} (hK : ∀ (kc ks : Nat) (L : List Nat) (A : Nat → Nat) (J : Nat → Int64) (I : UI) (R : UR) (H : Heap) (locs : List Loc) (ls : Array Slot), kc ≤ 601024 ∧ ks ≤ 7293034 → uEx s.heap.size L0 A0 L A → uX p s m #[Value.ref b] c code 7 "FrameFerryLaw" D cc L A t16 t32 → uV s D cc L A J I R H locs → lv_has ls 7 [(0, .ref b), (1, .ref (A 1)), (2, .ref (A 80)), (3, .ref (A 0)), (4, .int i)] → K kc ks L J I R → W p l e room_1 s m #[Value.ref b] below meth c H locs kc ks (lw_Z below #[Value.ref b] s) (F0 m 627 ls [])) (h : wp_law_11 kc ks L J I R y1 y2 y3 y4 y5 K) : W p l e room_1 s m #[Value.ref b] below meth c H locs kc ks (lw_Z below #[Value.ref b] s) (F0 m 559 ls []) := by
  have hx := X.1
  have hb := X.2.1
  unfold wp_law_11 at h
  refine lv_aload_n (pc := 559) hx hb d_Lw_law_559 rfl (lv_at hl 1 rfl) ?_
  refine lv_aload_n (pc := 560) hx hb d_Lw_law_560 rfl (lv_at hl 0 rfl) ?_
  refine lv_iload (pc := 561) hx hb d_Lw_law_561 (lv_at hl 4 rfl) ?_
  refine lv_iconst (pc := 563) (v := 1) hx hb d_Lw_law_563 (by decide) ?_
  refine lv_iadd (pc := 564) hx hb d_Lw_law_564 ?_
  refine u_sld (pc := 565) X V hE hY hS hbl hin1 hy1 d_Lw_law_565 ?_
  refine lv_aload_n (pc := 566) hx hb d_Lw_law_566 rfl (lv_at hl 0 rfl) ?_
  refine lv_iload (pc := 567) hx hb d_Lw_law_567 (lv_at hl 4 rfl) ?_
  refine lv_iconst (pc := 569) (v := 2) hx hb d_Lw_law_569 (by decide) ?_
  refine lv_iadd (pc := 570) hx hb d_Lw_law_570 ?_
  refine u_sld (pc := 571) X V hE hY hS hbl hin2 hy2 d_Lw_law_571 ?_
  refine lv_aload_n (pc := 572) hx hb d_Lw_law_572 rfl (lv_at hl 3 rfl) ?_
  obtain ⟨c1, s2, hk1, h⟩ := h
  have X0 := X
  refine u_cH (pc := 573) (As := [.ref (A 1), .int y1, .int y2, .ref (A 0)]) X V hE s_Lw_98 (c_Lw_got l hfl D cc L A J t16 t32 c1 s2 _ _ y1 y2 _ h) ⟨rfl, rfl, Nat.le_of_ble_eq_true rfl, Nat.le_of_ble_eq_true rfl⟩ rfl hl.1 rfl (Nat.le_of_ble_eq_true rfl) d_Lw_law_573 hk1 (fun r8 J7 L3 A4 I5 R6 h hG hE X H locs V => ?_)
  have hk := hk1
  have hl : lv_has ls 7 [(0, .ref b), (1, .ref (A 1)), (2, .ref (A 80)), (3, .ref (A 0)), (4, .int i)] := lv_sub hl [0, 1, 2, 3, 4] rfl
  have ea0 := (hG.2.2.1 1 (X0.fix rfl)).2
  rw [← ea0] at hl
  have ea1 := (hG.2.2.1 80 (X0.fix rfl)).2
  rw [← ea1] at hl
  have ea2 := (hG.2.2.1 0 (X0.fix rfl)).2
  rw [← ea2] at hl
  refine lv_istore (pc := 576) (lv' := [(5, .int r8), (0, .ref b), (1, .ref (A4 1)), (2, .ref (A4 80)), (3, .ref (A4 0)), (4, .int i)]) hx hb d_Lw_law_576 hl (by decide) rfl (fun ls hl => ?_)
  refine lv_aload_n (pc := 578) hx hb d_Lw_law_578 rfl (lv_at hl 3 rfl) ?_
  refine lv_aload_n (pc := 579) hx hb d_Lw_law_579 rfl (lv_at hl 1 rfl) ?_
  refine lv_iload (pc := 580) hx hb d_Lw_law_580 (lv_at hl 5 rfl) ?_
  refine lv_iconst (pc := 582) (v := 1) hx hb d_Lw_law_582 (by decide) ?_
  refine lv_iadd (pc := 583) hx hb d_Lw_law_583 ?_
  refine u_sld (pc := 584) X V hE hY hS hbl hin1 hy1 d_Lw_law_584 ?_
  refine lv_aload_n (pc := 585) hx hb d_Lw_law_585 rfl (lv_at hl 1 rfl) ?_
  refine lv_iload (pc := 586) hx hb d_Lw_law_586 (lv_at hl 5 rfl) ?_
  refine lv_iconst (pc := 588) (v := 2) hx hb d_Lw_law_588 (by decide) ?_
  refine lv_iadd (pc := 589) hx hb d_Lw_law_589 ?_
  refine u_sld (pc := 590) X V hE hY hS hbl hin2 hy2 d_Lw_law_590 ?_
  refine u_cVi (pc := 591) (As := [.int y1, .int y2]) X V s_Lw_101 (X.fix rfl) rfl rfl rfl (c_Mo_got l D cc L3 A4 J7 t16 t32 _ _ y1 y2 _ h) ⟨rfl, rfl, Nat.le_of_ble_eq_true rfl, Nat.le_of_ble_eq_true rfl⟩ rfl hl.1 rfl (Nat.le_of_ble_eq_true rfl) d_Lw_law_591 hk (fun r11 I9 R10 h H locs V => ?_)
  refine lv_istore (pc := 594) (lv' := [(6, .int r11), (5, .int r8), (0, .ref b), (1, .ref (A4 1)), (2, .ref (A4 80)), (3, .ref (A4 0)), (4, .int i)]) hx hb d_Lw_law_594 hl (by decide) rfl (fun ls hl => ?_)
  refine lv_goto (pc := 596) (tgt := 627) hx hb d_Lw_law_596 (by decide) ?_
  exact hK _ _ L3 A4 J7 I9 R10 H locs ls hk hE X V (lv_sub hl [2, 3, 4, 5, 6] rfl) h
def wp_law_12 (kc ks : Nat) (L : List Nat) (J : Nat → Int64) (I : UI) (R : UR) (y1 y2 y3 y4 y5 : Int32) (K : Nat → Nat → List Nat → (Nat → Int64) → UI → UR → Prop) : Prop :=
  (∃ c1 s2 : Nat, (kc + c1 ≤ 601024 ∧ ks + s2 ≤ 7293034) ∧ wp_Lw_count c1 s2 L J I R y1 (fun r8 J7 L3 I5 R6 => wp_Mo_count I5 R6 y1 (fun r11 I9 R10 => K (kc + c1) (ks + s2) L3 J7 I9 R10)))
set_option maxHeartbeats 4000000 in
set_option maxRecDepth 100000 in
theorem j_law_12 (hfl : l.flags = pinnedFlags ++ [noTraceFlag]) (hY : ∀ o, o ∈ L0 → s.heap.size ≤ A0 o) (hS : va_X b n xs s s.heap) (hbl : b < s.heap.size) (hin1 : vp_in (i + 1) n) (hy1 : xs (i + 1).toNatClampNeg = y1) (hin2 : vp_in (i + 2) n) (hy2 : xs (i + 2).toNatClampNeg = y2) (hin3 : vp_in (i + 3) n) (hy3 : xs (i + 3).toNatClampNeg = y3) (hin4 : vp_in (i + 4) n) (hy4 : xs (i + 4).toNatClampNeg = y4) (hin5 : vp_in (i + 5) n) (hy5 : xs (i + 5).toNatClampNeg = y5) (hk : kc ≤ 601024 ∧ ks ≤ 7293034) (hE : uEx s.heap.size L0 A0 L A) (X : uX p s m #[Value.ref b] c code 7 "FrameFerryLaw" D cc L A t16 t32) (V : uV s D cc L A J I R H locs) (hl : lv_has ls 7 [(0, .ref b), (1, .ref (A 1)), (2, .ref (A 80)), (3, .ref (A 0)), (4, .int i)]) {K : Nat → Nat → List Nat → (Nat → Int64) → UI → UR → Prop} (hK : ∀ (kc ks : Nat) (L : List Nat) (A : Nat → Nat) (J : Nat → Int64) (I : UI) (R : UR) (H : Heap) (locs : List Loc) (ls : Array Slot), kc ≤ 601024 ∧ ks ≤ 7293034 → uEx s.heap.size L0 A0 L A → uX p s m #[Value.ref b] c code 7 "FrameFerryLaw" D cc L A t16 t32 → uV s D cc L A J I R H locs → lv_has ls 7 [(0, .ref b), (1, .ref (A 1)), (2, .ref (A 80)), (3, .ref (A 0)), (4, .int i)] → K kc ks L J I R → W p l e room_1 s m #[Value.ref b] below meth c H locs kc ks (lw_Z below #[Value.ref b] s) (F0 m 627 ls [])) (h : wp_law_12 kc ks L J I R y1 y2 y3 y4 y5 K) : W p l e room_1 s m #[Value.ref b] below meth c H locs kc ks (lw_Z below #[Value.ref b] s) (F0 m 599 ls []) := by
  have hx := X.1
  have hb := X.2.1
  unfold wp_law_12 at h
  refine lv_aload_n (pc := 599) hx hb d_Lw_law_599 rfl (lv_at hl 1 rfl) ?_
  refine lv_aload_n (pc := 600) hx hb d_Lw_law_600 rfl (lv_at hl 0 rfl) ?_
  refine lv_iload (pc := 601) hx hb d_Lw_law_601 (lv_at hl 4 rfl) ?_
  refine lv_iconst (pc := 603) (v := 1) hx hb d_Lw_law_603 (by decide) ?_
  refine lv_iadd (pc := 604) hx hb d_Lw_law_604 ?_
  refine u_sld (pc := 605) X V hE hY hS hbl hin1 hy1 d_Lw_law_605 ?_
  refine lv_aload_n (pc := 606) hx hb d_Lw_law_606 rfl (lv_at hl 3 rfl) ?_
  obtain ⟨c1, s2, hk1, h⟩ := h
  have X0 := X
  refine u_cH (pc := 607) (As := [.ref (A 1), .int y1, .ref (A 0)]) X V hE s_Lw_102 (c_Lw_count l hfl D cc L A J t16 t32 c1 s2 _ _ y1 _ h) ⟨rfl, rfl, Nat.le_of_ble_eq_true rfl, Nat.le_of_ble_eq_true rfl⟩ rfl hl.1 rfl (Nat.le_of_ble_eq_true rfl) d_Lw_law_607 hk1 (fun r8 J7 L3 A4 I5 R6 h hG hE X H locs V => ?_)
  have hk := hk1
  have hl : lv_has ls 7 [(0, .ref b), (1, .ref (A 1)), (2, .ref (A 80)), (3, .ref (A 0)), (4, .int i)] := lv_sub hl [0, 1, 2, 3, 4] rfl
  have ea0 := (hG.2.2.1 1 (X0.fix rfl)).2
  rw [← ea0] at hl
  have ea1 := (hG.2.2.1 80 (X0.fix rfl)).2
  rw [← ea1] at hl
  have ea2 := (hG.2.2.1 0 (X0.fix rfl)).2
  rw [← ea2] at hl
  refine lv_istore (pc := 610) (lv' := [(5, .int r8), (0, .ref b), (1, .ref (A4 1)), (2, .ref (A4 80)), (3, .ref (A4 0)), (4, .int i)]) hx hb d_Lw_law_610 hl (by decide) rfl (fun ls hl => ?_)
  refine lv_aload_n (pc := 612) hx hb d_Lw_law_612 rfl (lv_at hl 3 rfl) ?_
  refine lv_aload_n (pc := 613) hx hb d_Lw_law_613 rfl (lv_at hl 1 rfl) ?_
  refine lv_iload (pc := 614) hx hb d_Lw_law_614 (lv_at hl 5 rfl) ?_
  refine lv_iconst (pc := 616) (v := 1) hx hb d_Lw_law_616 (by decide) ?_
  refine lv_iadd (pc := 617) hx hb d_Lw_law_617 ?_
  refine u_sld (pc := 618) X V hE hY hS hbl hin1 hy1 d_Lw_law_618 ?_
  refine u_cVi (pc := 619) (As := [.int y1]) X V s_Lw_104 (X.fix rfl) rfl rfl rfl (c_Mo_count l D cc L3 A4 J7 t16 t32 _ _ y1 _ h) ⟨rfl, rfl, Nat.le_of_ble_eq_true rfl, Nat.le_of_ble_eq_true rfl⟩ rfl hl.1 rfl (Nat.le_of_ble_eq_true rfl) d_Lw_law_619 hk (fun r11 I9 R10 h H locs V => ?_)
  refine lv_istore (pc := 622) (lv' := [(6, .int r11), (5, .int r8), (0, .ref b), (1, .ref (A4 1)), (2, .ref (A4 80)), (3, .ref (A4 0)), (4, .int i)]) hx hb d_Lw_law_622 hl (by decide) rfl (fun ls hl => ?_)
  refine lv_goto (pc := 624) (tgt := 627) hx hb d_Lw_law_624 (by decide) ?_
  exact hK _ _ L3 A4 J7 I9 R10 H locs ls hk hE X V (lv_sub hl [2, 3, 4, 5, 6] rfl) h
end G
