/-! Written by wip/gen/gen.py. -/
theorem s_Mo_164 : uCv "FrameFerryModel" 164 y_Mo_heard 2 (.code y_Mo_heard prog_10_method_37_code 3 none) := ⟨⟨tb_of 912 (by decide +kernel) rfl, tb_of 8 (by decide +kernel) rfl, tb_of 915 (by decide +kernel) rfl, by decide +kernel⟩, tb_of 914 (by decide +kernel) rfl, tb_sel 42 (by decide +kernel) rfl⟩
theorem s_Mo_160 : uCv "FrameFerryModel" 160 y_Mo_received 3 (.code y_Mo_received prog_10_method_33_code 5 none) := ⟨⟨tb_of 900 (by decide +kernel) rfl, tb_of 8 (by decide +kernel) rfl, tb_of 903 (by decide +kernel) rfl, by decide +kernel⟩, tb_of 902 (by decide +kernel) rfl, tb_sel 39 (by decide +kernel) rfl⟩
theorem s_Mo_156 : uCv "FrameFerryModel" 156 y_Mo_badHeader 1 (.code y_Mo_badHeader prog_10_method_24_code 2 none) := ⟨⟨tb_of 892 (by decide +kernel) rfl, tb_of 8 (by decide +kernel) rfl, tb_of 895 (by decide +kernel) rfl, by decide +kernel⟩, tb_of 894 (by decide +kernel) rfl, tb_sel 37 (by decide +kernel) rfl⟩
theorem s_Mo_192 : uCv "FrameFerryModel" 192 y_Mo_goodPacket 2 (.code y_Mo_goodPacket prog_10_method_35_code 4 none) := ⟨⟨tb_of 936 (by decide +kernel) rfl, tb_of 8 (by decide +kernel) rfl, tb_of 939 (by decide +kernel) rfl, by decide +kernel⟩, tb_of 938 (by decide +kernel) rfl, tb_sel 48 (by decide +kernel) rfl⟩
theorem s_Mo_183 : uCv "FrameFerryModel" 183 y_Mo_badPacket 0 (.code y_Mo_badPacket prog_10_method_34_code 1 none) := ⟨⟨tb_of 928 (by decide +kernel) rfl, tb_of 8 (by decide +kernel) rfl, tb_of 931 (by decide +kernel) rfl, by decide +kernel⟩, tb_of 930 (by decide +kernel) rfl, tb_sel 46 (by decide +kernel) rfl⟩
theorem s_Mo_186 : uCv "FrameFerryModel" 186 y_Mo_checkPart 1 (.code y_Mo_checkPart prog_10_method_30_code 5 none) := ⟨⟨tb_of 932 (by decide +kernel) rfl, tb_of 8 (by decide +kernel) rfl, tb_of 935 (by decide +kernel) rfl, by decide +kernel⟩, tb_of 934 (by decide +kernel) rfl, tb_sel 47 (by decide +kernel) rfl⟩
theorem s_Mo_177 : uCv "FrameFerryModel" 177 y_Mo_headerByte 2 (.code y_Mo_headerByte prog_10_method_25_code 7 none) := ⟨⟨tb_of 896 (by decide +kernel) rfl, tb_of 8 (by decide +kernel) rfl, tb_of 899 (by decide +kernel) rfl, by decide +kernel⟩, tb_of 898 (by decide +kernel) rfl, tb_sel 38 (by decide +kernel) rfl⟩
theorem s_Mo_173 : uCt "FrameFerryModel" 173 y_Mo_digitOf 1 (.code y_Mo_digitOf prog_10_method_23_code 1 (some .int)) := ⟨⟨tb_of 889 (by decide +kernel) rfl, tb_of 8 (by decide +kernel) rfl, tb_of 891 (by decide +kernel) rfl, by decide +kernel⟩, tb_of 890 (by decide +kernel) rfl⟩
theorem s_Mo_180 : uCv "FrameFerryModel" 180 y_Mo_plain 2 (.code y_Mo_plain prog_10_method_29_code 3 none) := ⟨⟨tb_of 924 (by decide +kernel) rfl, tb_of 8 (by decide +kernel) rfl, tb_of 927 (by decide +kernel) rfl, by decide +kernel⟩, tb_of 926 (by decide +kernel) rfl, tb_sel 45 (by decide +kernel) rfl⟩
theorem s_Mo_167 : uCv "FrameFerryModel" 167 y_Mo_readDigit 2 (.code y_Mo_readDigit prog_10_method_27_code 5 none) := ⟨⟨tb_of 885 (by decide +kernel) rfl, tb_of 8 (by decide +kernel) rfl, tb_of 888 (by decide +kernel) rfl, by decide +kernel⟩, tb_of 887 (by decide +kernel) rfl, tb_sel 36 (by decide +kernel) rfl⟩
theorem s_Mo_170 : uCv "FrameFerryModel" 170 y_Mo_readEscaped 2 (.code y_Mo_readEscaped prog_10_method_28_code 3 none) := ⟨⟨tb_of 920 (by decide +kernel) rfl, tb_of 8 (by decide +kernel) rfl, tb_of 923 (by decide +kernel) rfl, by decide +kernel⟩, tb_of 922 (by decide +kernel) rfl, tb_sel 44 (by decide +kernel) rfl⟩
section G
variable {p : Program} {l : Launch} {e : Env} {s : State} {m : MethodId} {args : Array Value} {below : List Frame} {meth : Method} {c : Code} {D : va_G} {cc : Nat → ClassId} {L L0 : List Nat} {A A0 : Nat → Nat} {J : Nat → Int64} {t16 t32 sz : Nat}
-- FrameFerryModel.headerByte (II)V
theorem d_Mo_headerByte_0 : decode prog_10_method_25_code 0 = .ok (.aload_n 0, 1) := by decide +kernel
theorem d_Mo_headerByte_1 : decode prog_10_method_25_code 1 = .ok (.getfield 32, 3) := by decide +kernel
theorem d_Mo_headerByte_4 : decode prog_10_method_25_code 4 = .ok (.bipush 80, 2) := by decide +kernel
theorem d_Mo_headerByte_6 : decode prog_10_method_25_code 6 = .ok (.iload_n 1, 1) := by decide +kernel
theorem d_Mo_headerByte_7 : decode prog_10_method_25_code 7 = .ok (.imul, 1) := by decide +kernel
theorem d_Mo_headerByte_8 : decode prog_10_method_25_code 8 = .ok (.aload_n 0, 1) := by decide +kernel
theorem d_Mo_headerByte_9 : decode prog_10_method_25_code 9 = .ok (.getfield 19, 3) := by decide +kernel
theorem d_Mo_headerByte_12 : decode prog_10_method_25_code 12 = .ok (.iload_n 1, 1) := by decide +kernel
theorem d_Mo_headerByte_13 : decode prog_10_method_25_code 13 = .ok (.iaload, 1) := by decide +kernel
theorem d_Mo_headerByte_14 : decode prog_10_method_25_code 14 = .ok (.iadd, 1) := by decide +kernel
theorem d_Mo_headerByte_15 : decode prog_10_method_25_code 15 = .ok (.iload_n 2, 1) := by decide +kernel
theorem d_Mo_headerByte_16 : decode prog_10_method_25_code 16 = .ok (.iastore, 1) := by decide +kernel
theorem d_Mo_headerByte_17 : decode prog_10_method_25_code 17 = .ok (.aload_n 0, 1) := by decide +kernel
theorem d_Mo_headerByte_18 : decode prog_10_method_25_code 18 = .ok (.getfield 19, 3) := by decide +kernel
theorem d_Mo_headerByte_21 : decode prog_10_method_25_code 21 = .ok (.iload_n 1, 1) := by decide +kernel
theorem d_Mo_headerByte_22 : decode prog_10_method_25_code 22 = .ok (.dup2, 1) := by decide +kernel
theorem d_Mo_headerByte_23 : decode prog_10_method_25_code 23 = .ok (.iaload, 1) := by decide +kernel
theorem d_Mo_headerByte_24 : decode prog_10_method_25_code 24 = .ok (.iconst 1, 1) := by decide +kernel
theorem d_Mo_headerByte_25 : decode prog_10_method_25_code 25 = .ok (.iadd, 1) := by decide +kernel
theorem d_Mo_headerByte_26 : decode prog_10_method_25_code 26 = .ok (.iastore, 1) := by decide +kernel
theorem d_Mo_headerByte_27 : decode prog_10_method_25_code 27 = .ok (.aload_n 0, 1) := by decide +kernel
theorem d_Mo_headerByte_28 : decode prog_10_method_25_code 28 = .ok (.getfield 29, 3) := by decide +kernel
theorem d_Mo_headerByte_31 : decode prog_10_method_25_code 31 = .ok (.iload_n 1, 1) := by decide +kernel
theorem d_Mo_headerByte_32 : decode prog_10_method_25_code 32 = .ok (.iaload, 1) := by decide +kernel
theorem d_Mo_headerByte_33 : decode prog_10_method_25_code 33 = .ok (.bipush 32, 2) := by decide +kernel
theorem d_Mo_headerByte_35 : decode prog_10_method_25_code 35 = .ok (.if_icmp .ne 8, 3) := by decide +kernel
theorem d_Mo_headerByte_38 : decode prog_10_method_25_code 38 = .ok (.bipush 9, 2) := by decide +kernel
theorem d_Mo_headerByte_40 : decode prog_10_method_25_code 40 = .ok (.goto 5, 3) := by decide +kernel
theorem d_Mo_headerByte_43 : decode prog_10_method_25_code 43 = .ok (.bipush 7, 2) := by decide +kernel
theorem d_Mo_headerByte_45 : decode prog_10_method_25_code 45 = .ok (.istore_n 3, 1) := by decide +kernel
theorem d_Mo_headerByte_46 : decode prog_10_method_25_code 46 = .ok (.aload_n 0, 1) := by decide +kernel
theorem d_Mo_headerByte_47 : decode prog_10_method_25_code 47 = .ok (.getfield 19, 3) := by decide +kernel
theorem d_Mo_headerByte_50 : decode prog_10_method_25_code 50 = .ok (.iload_n 1, 1) := by decide +kernel
theorem d_Mo_headerByte_51 : decode prog_10_method_25_code 51 = .ok (.iaload, 1) := by decide +kernel
theorem d_Mo_headerByte_52 : decode prog_10_method_25_code 52 = .ok (.iload_n 3, 1) := by decide +kernel
theorem d_Mo_headerByte_53 : decode prog_10_method_25_code 53 = .ok (.if_icmp .ge 4, 3) := by decide +kernel
theorem d_Mo_headerByte_56 : decode prog_10_method_25_code 56 = .ok (.return_, 1) := by decide +kernel
theorem d_Mo_headerByte_57 : decode prog_10_method_25_code 57 = .ok (.iconst 1, 1) := by decide +kernel
theorem d_Mo_headerByte_58 : decode prog_10_method_25_code 58 = .ok (.istore 4, 2) := by decide +kernel
theorem d_Mo_headerByte_60 : decode prog_10_method_25_code 60 = .ok (.iconst 0, 1) := by decide +kernel
theorem d_Mo_headerByte_61 : decode prog_10_method_25_code 61 = .ok (.istore 5, 2) := by decide +kernel
theorem d_Mo_headerByte_63 : decode prog_10_method_25_code 63 = .ok (.iload 5, 2) := by decide +kernel
theorem d_Mo_headerByte_65 : decode prog_10_method_25_code 65 = .ok (.iload_n 3, 1) := by decide +kernel
theorem d_Mo_headerByte_66 : decode prog_10_method_25_code 66 = .ok (.iconst 5, 1) := by decide +kernel
theorem d_Mo_headerByte_67 : decode prog_10_method_25_code 67 = .ok (.isub, 1) := by decide +kernel
theorem d_Mo_headerByte_68 : decode prog_10_method_25_code 68 = .ok (.if_icmp .ge 68, 3) := by decide +kernel
theorem d_Mo_headerByte_71 : decode prog_10_method_25_code 71 = .ok (.iload 4, 2) := by decide +kernel
theorem d_Mo_headerByte_73 : decode prog_10_method_25_code 73 = .ok (.ifCond .eq 54, 3) := by decide +kernel
theorem d_Mo_headerByte_76 : decode prog_10_method_25_code 76 = .ok (.aload_n 0, 1) := by decide +kernel
theorem d_Mo_headerByte_77 : decode prog_10_method_25_code 77 = .ok (.getfield 32, 3) := by decide +kernel
theorem d_Mo_headerByte_80 : decode prog_10_method_25_code 80 = .ok (.bipush 80, 2) := by decide +kernel
theorem d_Mo_headerByte_82 : decode prog_10_method_25_code 82 = .ok (.iload_n 1, 1) := by decide +kernel
theorem d_Mo_headerByte_83 : decode prog_10_method_25_code 83 = .ok (.imul, 1) := by decide +kernel
theorem d_Mo_headerByte_84 : decode prog_10_method_25_code 84 = .ok (.iconst 5, 1) := by decide +kernel
theorem d_Mo_headerByte_85 : decode prog_10_method_25_code 85 = .ok (.iadd, 1) := by decide +kernel
theorem d_Mo_headerByte_86 : decode prog_10_method_25_code 86 = .ok (.iload 5, 2) := by decide +kernel
theorem d_Mo_headerByte_88 : decode prog_10_method_25_code 88 = .ok (.iadd, 1) := by decide +kernel
theorem d_Mo_headerByte_89 : decode prog_10_method_25_code 89 = .ok (.iaload, 1) := by decide +kernel
theorem d_Mo_headerByte_90 : decode prog_10_method_25_code 90 = .ok (.aload_n 0, 1) := by decide +kernel
theorem d_Mo_headerByte_91 : decode prog_10_method_25_code 91 = .ok (.getfield 32, 3) := by decide +kernel
theorem d_Mo_headerByte_94 : decode prog_10_method_25_code 94 = .ok (.bipush 80, 2) := by decide +kernel
theorem d_Mo_headerByte_96 : decode prog_10_method_25_code 96 = .ok (.iload_n 1, 1) := by decide +kernel
theorem d_Mo_headerByte_97 : decode prog_10_method_25_code 97 = .ok (.imul, 1) := by decide +kernel
theorem d_Mo_headerByte_98 : decode prog_10_method_25_code 98 = .ok (.iconst 5, 1) := by decide +kernel
theorem d_Mo_headerByte_99 : decode prog_10_method_25_code 99 = .ok (.aload_n 0, 1) := by decide +kernel
theorem d_Mo_headerByte_100 : decode prog_10_method_25_code 100 = .ok (.getfield 29, 3) := by decide +kernel
theorem d_Mo_headerByte_103 : decode prog_10_method_25_code 103 = .ok (.iload_n 1, 1) := by decide +kernel
theorem d_Mo_headerByte_104 : decode prog_10_method_25_code 104 = .ok (.iaload, 1) := by decide +kernel
theorem d_Mo_headerByte_105 : decode prog_10_method_25_code 105 = .ok (.bipush 32, 2) := by decide +kernel
theorem d_Mo_headerByte_107 : decode prog_10_method_25_code 107 = .ok (.if_icmp .ne 7, 3) := by decide +kernel
theorem d_Mo_headerByte_110 : decode prog_10_method_25_code 110 = .ok (.iconst 1, 1) := by decide +kernel
theorem d_Mo_headerByte_111 : decode prog_10_method_25_code 111 = .ok (.goto 4, 3) := by decide +kernel
theorem d_Mo_headerByte_114 : decode prog_10_method_25_code 114 = .ok (.iconst 0, 1) := by decide +kernel
theorem d_Mo_headerByte_115 : decode prog_10_method_25_code 115 = .ok (.iload 5, 2) := by decide +kernel
theorem d_Mo_headerByte_117 : decode prog_10_method_25_code 117 = .ok (.invokestatic 124, 3) := by decide +kernel
theorem d_Mo_headerByte_120 : decode prog_10_method_25_code 120 = .ok (.if_icmp .ne 7, 3) := by decide +kernel
theorem d_Mo_headerByte_123 : decode prog_10_method_25_code 123 = .ok (.iconst 1, 1) := by decide +kernel
theorem d_Mo_headerByte_124 : decode prog_10_method_25_code 124 = .ok (.goto 4, 3) := by decide +kernel
theorem d_Mo_headerByte_127 : decode prog_10_method_25_code 127 = .ok (.iconst 0, 1) := by decide +kernel
theorem d_Mo_headerByte_128 : decode prog_10_method_25_code 128 = .ok (.istore 4, 2) := by decide +kernel
theorem d_Mo_headerByte_130 : decode prog_10_method_25_code 130 = .ok (.iinc 5 1, 3) := by decide +kernel
theorem d_Mo_headerByte_133 : decode prog_10_method_25_code 133 = .ok (.goto (-70), 3) := by decide +kernel
theorem d_Mo_headerByte_136 : decode prog_10_method_25_code 136 = .ok (.aload_n 0, 1) := by decide +kernel
theorem d_Mo_headerByte_137 : decode prog_10_method_25_code 137 = .ok (.getfield 16, 3) := by decide +kernel
theorem d_Mo_headerByte_140 : decode prog_10_method_25_code 140 = .ok (.iload_n 1, 1) := by decide +kernel
theorem d_Mo_headerByte_141 : decode prog_10_method_25_code 141 = .ok (.iaload, 1) := by decide +kernel
theorem d_Mo_headerByte_142 : decode prog_10_method_25_code 142 = .ok (.iconst 3, 1) := by decide +kernel
theorem d_Mo_headerByte_143 : decode prog_10_method_25_code 143 = .ok (.if_icmp .ne 7, 3) := by decide +kernel
theorem d_Mo_headerByte_146 : decode prog_10_method_25_code 146 = .ok (.iconst 1, 1) := by decide +kernel
theorem d_Mo_headerByte_147 : decode prog_10_method_25_code 147 = .ok (.goto 4, 3) := by decide +kernel
theorem d_Mo_headerByte_150 : decode prog_10_method_25_code 150 = .ok (.iconst 0, 1) := by decide +kernel
theorem d_Mo_headerByte_151 : decode prog_10_method_25_code 151 = .ok (.istore 5, 2) := by decide +kernel
theorem d_Mo_headerByte_153 : decode prog_10_method_25_code 153 = .ok (.iload 4, 2) := by decide +kernel
theorem d_Mo_headerByte_155 : decode prog_10_method_25_code 155 = .ok (.ifCond .ne 9, 3) := by decide +kernel
theorem d_Mo_headerByte_158 : decode prog_10_method_25_code 158 = .ok (.aload_n 0, 1) := by decide +kernel
theorem d_Mo_headerByte_159 : decode prog_10_method_25_code 159 = .ok (.iload_n 1, 1) := by decide +kernel
theorem d_Mo_headerByte_160 : decode prog_10_method_25_code 160 = .ok (.invokevirtual 156, 3) := by decide +kernel
theorem d_Mo_headerByte_163 : decode prog_10_method_25_code 163 = .ok (.return_, 1) := by decide +kernel
theorem d_Mo_headerByte_164 : decode prog_10_method_25_code 164 = .ok (.aload_n 0, 1) := by decide +kernel
theorem d_Mo_headerByte_165 : decode prog_10_method_25_code 165 = .ok (.getfield 32, 3) := by decide +kernel
theorem d_Mo_headerByte_168 : decode prog_10_method_25_code 168 = .ok (.bipush 80, 2) := by decide +kernel
theorem d_Mo_headerByte_170 : decode prog_10_method_25_code 170 = .ok (.iload_n 1, 1) := by decide +kernel
theorem d_Mo_headerByte_171 : decode prog_10_method_25_code 171 = .ok (.imul, 1) := by decide +kernel
theorem d_Mo_headerByte_172 : decode prog_10_method_25_code 172 = .ok (.iconst 1, 1) := by decide +kernel
theorem d_Mo_headerByte_173 : decode prog_10_method_25_code 173 = .ok (.iadd, 1) := by decide +kernel
theorem d_Mo_headerByte_174 : decode prog_10_method_25_code 174 = .ok (.iaload, 1) := by decide +kernel
theorem d_Mo_headerByte_175 : decode prog_10_method_25_code 175 = .ok (.aload_n 0, 1) := by decide +kernel
theorem d_Mo_headerByte_176 : decode prog_10_method_25_code 176 = .ok (.getfield 32, 3) := by decide +kernel
theorem d_Mo_headerByte_179 : decode prog_10_method_25_code 179 = .ok (.bipush 80, 2) := by decide +kernel
theorem d_Mo_headerByte_181 : decode prog_10_method_25_code 181 = .ok (.iload_n 1, 1) := by decide +kernel
theorem d_Mo_headerByte_182 : decode prog_10_method_25_code 182 = .ok (.imul, 1) := by decide +kernel
theorem d_Mo_headerByte_183 : decode prog_10_method_25_code 183 = .ok (.iconst 2, 1) := by decide +kernel
theorem d_Mo_headerByte_184 : decode prog_10_method_25_code 184 = .ok (.iadd, 1) := by decide +kernel
theorem d_Mo_headerByte_185 : decode prog_10_method_25_code 185 = .ok (.iaload, 1) := by decide +kernel
theorem d_Mo_headerByte_186 : decode prog_10_method_25_code 186 = .ok (.bipush 8, 2) := by decide +kernel
theorem d_Mo_headerByte_188 : decode prog_10_method_25_code 188 = .ok (.ishl, 1) := by decide +kernel
theorem d_Mo_headerByte_189 : decode prog_10_method_25_code 189 = .ok (.ior, 1) := by decide +kernel
theorem d_Mo_headerByte_190 : decode prog_10_method_25_code 190 = .ok (.aload_n 0, 1) := by decide +kernel
theorem d_Mo_headerByte_191 : decode prog_10_method_25_code 191 = .ok (.getfield 32, 3) := by decide +kernel
theorem d_Mo_headerByte_194 : decode prog_10_method_25_code 194 = .ok (.bipush 80, 2) := by decide +kernel
theorem d_Mo_headerByte_196 : decode prog_10_method_25_code 196 = .ok (.iload_n 1, 1) := by decide +kernel
theorem d_Mo_headerByte_197 : decode prog_10_method_25_code 197 = .ok (.imul, 1) := by decide +kernel
theorem d_Mo_headerByte_198 : decode prog_10_method_25_code 198 = .ok (.iconst 3, 1) := by decide +kernel
theorem d_Mo_headerByte_199 : decode prog_10_method_25_code 199 = .ok (.iadd, 1) := by decide +kernel
theorem d_Mo_headerByte_200 : decode prog_10_method_25_code 200 = .ok (.iaload, 1) := by decide +kernel
theorem d_Mo_headerByte_201 : decode prog_10_method_25_code 201 = .ok (.bipush 16, 2) := by decide +kernel
theorem d_Mo_headerByte_203 : decode prog_10_method_25_code 203 = .ok (.ishl, 1) := by decide +kernel
theorem d_Mo_headerByte_204 : decode prog_10_method_25_code 204 = .ok (.ior, 1) := by decide +kernel
theorem d_Mo_headerByte_205 : decode prog_10_method_25_code 205 = .ok (.aload_n 0, 1) := by decide +kernel
theorem d_Mo_headerByte_206 : decode prog_10_method_25_code 206 = .ok (.getfield 32, 3) := by decide +kernel
theorem d_Mo_headerByte_209 : decode prog_10_method_25_code 209 = .ok (.bipush 80, 2) := by decide +kernel
theorem d_Mo_headerByte_211 : decode prog_10_method_25_code 211 = .ok (.iload_n 1, 1) := by decide +kernel
theorem d_Mo_headerByte_212 : decode prog_10_method_25_code 212 = .ok (.imul, 1) := by decide +kernel
theorem d_Mo_headerByte_213 : decode prog_10_method_25_code 213 = .ok (.iconst 4, 1) := by decide +kernel
theorem d_Mo_headerByte_214 : decode prog_10_method_25_code 214 = .ok (.iadd, 1) := by decide +kernel
theorem d_Mo_headerByte_215 : decode prog_10_method_25_code 215 = .ok (.iaload, 1) := by decide +kernel
theorem d_Mo_headerByte_216 : decode prog_10_method_25_code 216 = .ok (.bipush 24, 2) := by decide +kernel
theorem d_Mo_headerByte_218 : decode prog_10_method_25_code 218 = .ok (.ishl, 1) := by decide +kernel
theorem d_Mo_headerByte_219 : decode prog_10_method_25_code 219 = .ok (.ior, 1) := by decide +kernel
theorem d_Mo_headerByte_220 : decode prog_10_method_25_code 220 = .ok (.istore 6, 2) := by decide +kernel
theorem d_Mo_headerByte_222 : decode prog_10_method_25_code 222 = .ok (.aload_n 0, 1) := by decide +kernel
theorem d_Mo_headerByte_223 : decode prog_10_method_25_code 223 = .ok (.iload_n 1, 1) := by decide +kernel
theorem d_Mo_headerByte_224 : decode prog_10_method_25_code 224 = .ok (.iconst 0, 1) := by decide +kernel
theorem d_Mo_headerByte_225 : decode prog_10_method_25_code 225 = .ok (.invokevirtual 153, 3) := by decide +kernel
theorem d_Mo_headerByte_228 : decode prog_10_method_25_code 228 = .ok (.iload_n 1, 1) := by decide +kernel
theorem d_Mo_headerByte_229 : decode prog_10_method_25_code 229 = .ok (.iconst 1, 1) := by decide +kernel
theorem d_Mo_headerByte_230 : decode prog_10_method_25_code 230 = .ok (.if_icmp .ne 31, 3) := by decide +kernel
theorem d_Mo_headerByte_233 : decode prog_10_method_25_code 233 = .ok (.aload_n 0, 1) := by decide +kernel
theorem d_Mo_headerByte_234 : decode prog_10_method_25_code 234 = .ok (.getfield 76, 3) := by decide +kernel
theorem d_Mo_headerByte_237 : decode prog_10_method_25_code 237 = .ok (.iconst 0, 1) := by decide +kernel
theorem d_Mo_headerByte_238 : decode prog_10_method_25_code 238 = .ok (.dup2, 1) := by decide +kernel
theorem d_Mo_headerByte_239 : decode prog_10_method_25_code 239 = .ok (.iaload, 1) := by decide +kernel
theorem d_Mo_headerByte_240 : decode prog_10_method_25_code 240 = .ok (.iconst 1, 1) := by decide +kernel
theorem d_Mo_headerByte_241 : decode prog_10_method_25_code 241 = .ok (.iadd, 1) := by decide +kernel
theorem d_Mo_headerByte_242 : decode prog_10_method_25_code 242 = .ok (.iastore, 1) := by decide +kernel
theorem d_Mo_headerByte_243 : decode prog_10_method_25_code 243 = .ok (.aload_n 0, 1) := by decide +kernel
theorem d_Mo_headerByte_244 : decode prog_10_method_25_code 244 = .ok (.aload_n 0, 1) := by decide +kernel
theorem d_Mo_headerByte_245 : decode prog_10_method_25_code 245 = .ok (.getfield 32, 3) := by decide +kernel
theorem d_Mo_headerByte_248 : decode prog_10_method_25_code 248 = .ok (.bipush 80, 2) := by decide +kernel
theorem d_Mo_headerByte_250 : decode prog_10_method_25_code 250 = .ok (.iaload, 1) := by decide +kernel
theorem d_Mo_headerByte_251 : decode prog_10_method_25_code 251 = .ok (.iload 6, 2) := by decide +kernel
theorem d_Mo_headerByte_253 : decode prog_10_method_25_code 253 = .ok (.iload 5, 2) := by decide +kernel
theorem d_Mo_headerByte_255 : decode prog_10_method_25_code 255 = .ok (.invokevirtual 160, 3) := by decide +kernel
theorem d_Mo_headerByte_258 : decode prog_10_method_25_code 258 = .ok (.goto 15, 3) := by decide +kernel
theorem d_Mo_headerByte_261 : decode prog_10_method_25_code 261 = .ok (.aload_n 0, 1) := by decide +kernel
theorem d_Mo_headerByte_262 : decode prog_10_method_25_code 262 = .ok (.aload_n 0, 1) := by decide +kernel
theorem d_Mo_headerByte_263 : decode prog_10_method_25_code 263 = .ok (.getfield 32, 3) := by decide +kernel
theorem d_Mo_headerByte_266 : decode prog_10_method_25_code 266 = .ok (.iconst 0, 1) := by decide +kernel
theorem d_Mo_headerByte_267 : decode prog_10_method_25_code 267 = .ok (.iaload, 1) := by decide +kernel
theorem d_Mo_headerByte_268 : decode prog_10_method_25_code 268 = .ok (.iload 6, 2) := by decide +kernel
theorem d_Mo_headerByte_270 : decode prog_10_method_25_code 270 = .ok (.invokevirtual 164, 3) := by decide +kernel
theorem d_Mo_headerByte_273 : decode prog_10_method_25_code 273 = .ok (.return_, 1) := by decide +kernel
def rm_Mo_headerByte : Room := { frames := 7, cells := 0, slots := 0, locals := 156 }
def wp_Mo_headerByte_L151 (Q : UI → UR → Prop) (I : UI) (R : UR) (x1 : Int32) (x4 : Int32) (s0 : Int32) : Prop :=
  ((¬ x4 = 0 → vp_in ((80 * x1) + 1) 160 ∧ vp_in ((80 * x1) + 2) 160 ∧ vp_in ((80 * x1) + 3) 160 ∧ vp_in ((80 * x1) + 4) 160 ∧ ∀ v3 : Int32, v3 = (((I 88 ((80 * x1) + 1).toNatClampNeg) ||| ((I 88 ((80 * x1) + 2).toNatClampNeg) <<< (8 &&& 31))) ||| ((I 88 ((80 * x1) + 3).toNatClampNeg) <<< (16 &&& 31))) ||| ((I 88 ((80 * x1) + 4).toNatClampNeg) <<< (24 &&& 31)) → wp_Mo_begin I R x1 0 (fun I4 R5 => ((¬ x1 = 1 → vp_in 0 160 ∧ wp_Mo_heard I4 R5 (I4 88 (0 : Int32).toNatClampNeg) v3 (fun I6 R7 => Q I6 R7)) ∧ (x1 = 1 → vp_in 0 4 ∧ vp_in 0 4 ∧ ∀ I8 : UI, I8 = u2 I4 108 ((0 : Int32).toNatClampNeg) ((I4 108 (0 : Int32).toNatClampNeg) + 1) → vp_in 80 160 ∧ wp_Mo_received I8 R5 (I8 88 (80 : Int32).toNatClampNeg) v3 s0 (fun I9 R10 => Q I9 R10))))) ∧ (x4 = 0 → wp_Mo_badHeader I R x1 (fun I11 R12 => Q I11 R12)))
set_option maxHeartbeats 4000000 in
set_option maxRecDepth 100000 in
theorem j_Mo_headerByte_151 (X : uX p s m args c prog_10_method_25_code 7 "FrameFerryModel" D cc L A t16 t32) (hr : meth.sig.returnType = none) (hlk : meth.locks = false) (hsz : sz = s.heap.size) {Q : UI → UR → Prop} {I : UI} {R : UR} {x1 : Int32} {x4 : Int32} {s0 : Int32} {H : Heap} {locs : List Loc} {ls : Array Slot} (V : uV s D cc L A J I R H locs) (hl : lv_has ls 7 [(0, .ref (A 80)), (1, .int x1), (4, .int x4)]) (h : wp_Mo_headerByte_L151 Q I R x1 x4 s0) : W p l e rm_Mo_headerByte s m args below meth c H locs 0 0 (MQ below (va_Qv (fun u : UI × UR => Q u.1 u.2) (uBv D cc L A J) (uA L A sz)) args s 0 0 (uA L A sz)) (F0 m 151 ls [.int s0]) := by
  have hx := X.1
  have hb := X.2.1
  unfold wp_Mo_headerByte_L151 at h
  refine lv_istore (pc := 151) (lv' := [(5, .int s0), (0, .ref (A 80)), (1, .int x1), (4, .int x4)]) hx hb d_Mo_headerByte_151 hl (by decide) rfl (fun ls hl => ?_)
  refine lv_iload (pc := 153) hx hb d_Mo_headerByte_153 (lv_at hl 3 rfl) ?_
  refine lv_if_ne (pc := 155) (tgt := 164) hx hb d_Mo_headerByte_155 (by decide) (fun hc => ?_) (fun hc => ?_)
  · have h := h.1 hc
    refine lv_aload_n (pc := 164) hx hb d_Mo_headerByte_164 rfl (lv_at hl 1 rfl) ?_
    refine u_getr (pc := 165) (o' := 88) X V (X.fix rfl) rfl rfl f_Mo_32 rfl rfl d_Mo_headerByte_165 ?_
    refine lv_bipush (pc := 168) (v := 80) hx hb d_Mo_headerByte_168 (by decide) ?_
    refine lv_iload_n (pc := 170) hx hb d_Mo_headerByte_170 rfl (lv_at hl 2 rfl) ?_
    refine lv_imul (pc := 171) hx hb d_Mo_headerByte_171 ?_
    refine lv_iconst (pc := 172) (v := 1) hx hb d_Mo_headerByte_172 (by decide) ?_
    refine lv_iadd (pc := 173) hx hb d_Mo_headerByte_173 ?_
    refine u_iald (pc := 174) X V (X.fix rfl) rfl rfl h.1 d_Mo_headerByte_174 ?_
    have h := h.2
    refine lv_aload_n (pc := 175) hx hb d_Mo_headerByte_175 rfl (lv_at hl 1 rfl) ?_
    refine u_getr (pc := 176) (o' := 88) X V (X.fix rfl) rfl rfl f_Mo_32 rfl rfl d_Mo_headerByte_176 ?_
    refine lv_bipush (pc := 179) (v := 80) hx hb d_Mo_headerByte_179 (by decide) ?_
    refine lv_iload_n (pc := 181) hx hb d_Mo_headerByte_181 rfl (lv_at hl 2 rfl) ?_
    refine lv_imul (pc := 182) hx hb d_Mo_headerByte_182 ?_
    refine lv_iconst (pc := 183) (v := 2) hx hb d_Mo_headerByte_183 (by decide) ?_
    refine lv_iadd (pc := 184) hx hb d_Mo_headerByte_184 ?_
    refine u_iald (pc := 185) X V (X.fix rfl) rfl rfl h.1 d_Mo_headerByte_185 ?_
    have h := h.2
    refine lv_bipush (pc := 186) (v := 8) hx hb d_Mo_headerByte_186 (by decide) ?_
    refine lv_ishl (pc := 188) hx hb d_Mo_headerByte_188 ?_
    refine lv_ior (pc := 189) hx hb d_Mo_headerByte_189 ?_
    refine lv_aload_n (pc := 190) hx hb d_Mo_headerByte_190 rfl (lv_at hl 1 rfl) ?_
    refine u_getr (pc := 191) (o' := 88) X V (X.fix rfl) rfl rfl f_Mo_32 rfl rfl d_Mo_headerByte_191 ?_
    refine lv_bipush (pc := 194) (v := 80) hx hb d_Mo_headerByte_194 (by decide) ?_
    refine lv_iload_n (pc := 196) hx hb d_Mo_headerByte_196 rfl (lv_at hl 2 rfl) ?_
    refine lv_imul (pc := 197) hx hb d_Mo_headerByte_197 ?_
    refine lv_iconst (pc := 198) (v := 3) hx hb d_Mo_headerByte_198 (by decide) ?_
    refine lv_iadd (pc := 199) hx hb d_Mo_headerByte_199 ?_
    refine u_iald (pc := 200) X V (X.fix rfl) rfl rfl h.1 d_Mo_headerByte_200 ?_
    have h := h.2
    refine lv_bipush (pc := 201) (v := 16) hx hb d_Mo_headerByte_201 (by decide) ?_
    refine lv_ishl (pc := 203) hx hb d_Mo_headerByte_203 ?_
    refine lv_ior (pc := 204) hx hb d_Mo_headerByte_204 ?_
    refine lv_aload_n (pc := 205) hx hb d_Mo_headerByte_205 rfl (lv_at hl 1 rfl) ?_
    refine u_getr (pc := 206) (o' := 88) X V (X.fix rfl) rfl rfl f_Mo_32 rfl rfl d_Mo_headerByte_206 ?_
    refine lv_bipush (pc := 209) (v := 80) hx hb d_Mo_headerByte_209 (by decide) ?_
    refine lv_iload_n (pc := 211) hx hb d_Mo_headerByte_211 rfl (lv_at hl 2 rfl) ?_
    refine lv_imul (pc := 212) hx hb d_Mo_headerByte_212 ?_
    refine lv_iconst (pc := 213) (v := 4) hx hb d_Mo_headerByte_213 (by decide) ?_
    refine lv_iadd (pc := 214) hx hb d_Mo_headerByte_214 ?_
    refine u_iald (pc := 215) X V (X.fix rfl) rfl rfl h.1 d_Mo_headerByte_215 ?_
    have h := h.2
    refine lv_bipush (pc := 216) (v := 24) hx hb d_Mo_headerByte_216 (by decide) ?_
    refine lv_ishl (pc := 218) hx hb d_Mo_headerByte_218 ?_
    refine lv_ior (pc := 219) hx hb d_Mo_headerByte_219 ?_
    refine lv_topi (fun v3 ev3 => ?_)
    have h := h v3 ev3
    refine lv_istore (pc := 220) (lv' := [(6, .int v3), (5, .int s0), (0, .ref (A 80)), (1, .int x1), (4, .int x4)]) hx hb d_Mo_headerByte_220 hl (by decide) rfl (fun ls hl => ?_)
    refine lv_aload_n (pc := 222) hx hb d_Mo_headerByte_222 rfl (lv_at hl 2 rfl) ?_
    refine lv_iload_n (pc := 223) hx hb d_Mo_headerByte_223 rfl (lv_at hl 3 rfl) ?_
    refine lv_iconst (pc := 224) (v := 0) hx hb d_Mo_headerByte_224 (by decide) ?_
    refine u_cVv (pc := 225) (As := [.int x1, .int 0]) X V s_Mo_153 (X.fix rfl) rfl rfl rfl (c_Mo_begin l D cc L A J t16 t32 _ _ x1 0 _ h) ⟨rfl, rfl, Nat.le_of_ble_eq_true rfl, Nat.le_of_ble_eq_true rfl⟩ rfl hl.1 rfl (Nat.le_of_ble_eq_true rfl) d_Mo_headerByte_225 ⟨Nat.zero_le _, Nat.zero_le _⟩ (fun I4 R5 h H locs V => ?_)
    refine lv_iload_n (pc := 228) hx hb d_Mo_headerByte_228 rfl (lv_at hl 3 rfl) ?_
    refine lv_iconst (pc := 229) (v := 1) hx hb d_Mo_headerByte_229 (by decide) ?_
    refine lv_icmp_ne (pc := 230) (tgt := 261) hx hb d_Mo_headerByte_230 (by decide) (fun hc => ?_) (fun hc => ?_)
    · have h := h.1 hc
      refine lv_aload_n (pc := 261) hx hb d_Mo_headerByte_261 rfl (lv_at hl 2 rfl) ?_
      refine lv_aload_n (pc := 262) hx hb d_Mo_headerByte_262 rfl (lv_at hl 2 rfl) ?_
      refine u_getr (pc := 263) (o' := 88) X V (X.fix rfl) rfl rfl f_Mo_32 rfl rfl d_Mo_headerByte_263 ?_
      refine lv_iconst (pc := 266) (v := 0) hx hb d_Mo_headerByte_266 (by decide) ?_
      refine u_iald (pc := 267) X V (X.fix rfl) rfl rfl h.1 d_Mo_headerByte_267 ?_
      have h := h.2
      refine lv_iload (pc := 268) hx hb d_Mo_headerByte_268 (lv_at hl 0 rfl) ?_
      refine u_cVv (pc := 270) (As := [.int (I4 88 (0 : Int32).toNatClampNeg), .int v3]) X V s_Mo_164 (X.fix rfl) rfl rfl rfl (c_Mo_heard l D cc L A J t16 t32 _ _ (I4 88 (0 : Int32).toNatClampNeg) v3 _ h) ⟨rfl, rfl, Nat.le_of_ble_eq_true rfl, Nat.le_of_ble_eq_true rfl⟩ rfl hl.1 rfl (Nat.le_of_ble_eq_true rfl) d_Mo_headerByte_270 ⟨Nat.zero_le _, Nat.zero_le _⟩ (fun I6 R7 h H locs V => ?_)
      exact u_retv (pc := 273) X V hr hlk hsz h d_Mo_headerByte_273
    · have h := h.2 hc
      refine lv_aload_n (pc := 233) hx hb d_Mo_headerByte_233 rfl (lv_at hl 2 rfl) ?_
      refine u_getr (pc := 234) (o' := 108) X V (X.fix rfl) rfl rfl f_Mo_76 rfl rfl d_Mo_headerByte_234 ?_
      refine lv_iconst (pc := 237) (v := 0) hx hb d_Mo_headerByte_237 (by decide) ?_
      refine lv_dup2_11 (pc := 238) hx hb d_Mo_headerByte_238 rfl rfl ?_
      refine u_iald (pc := 239) X V (X.fix rfl) rfl rfl h.1 d_Mo_headerByte_239 ?_
      have h := h.2
      refine lv_iconst (pc := 240) (v := 1) hx hb d_Mo_headerByte_240 (by decide) ?_
      refine lv_iadd (pc := 241) hx hb d_Mo_headerByte_241 ?_
      refine u_iast (pc := 242) X V (X.fix rfl) rfl rfl h.1 d_Mo_headerByte_242 (fun I8 eI8 H locs V => ?_)
      have h := h.2 I8 eI8
      refine lv_aload_n (pc := 243) hx hb d_Mo_headerByte_243 rfl (lv_at hl 2 rfl) ?_
      refine lv_aload_n (pc := 244) hx hb d_Mo_headerByte_244 rfl (lv_at hl 2 rfl) ?_
      refine u_getr (pc := 245) (o' := 88) X V (X.fix rfl) rfl rfl f_Mo_32 rfl rfl d_Mo_headerByte_245 ?_
      refine lv_bipush (pc := 248) (v := 80) hx hb d_Mo_headerByte_248 (by decide) ?_
      refine u_iald (pc := 250) X V (X.fix rfl) rfl rfl h.1 d_Mo_headerByte_250 ?_
      have h := h.2
      refine lv_iload (pc := 251) hx hb d_Mo_headerByte_251 (lv_at hl 0 rfl) ?_
      refine lv_iload (pc := 253) hx hb d_Mo_headerByte_253 (lv_at hl 1 rfl) ?_
      refine u_cVv (pc := 255) (As := [.int (I8 88 (80 : Int32).toNatClampNeg), .int v3, .int s0]) X V s_Mo_160 (X.fix rfl) rfl rfl rfl (c_Mo_received l D cc L A J t16 t32 _ _ (I8 88 (80 : Int32).toNatClampNeg) v3 s0 _ h) ⟨rfl, rfl, Nat.le_of_ble_eq_true rfl, Nat.le_of_ble_eq_true rfl⟩ rfl hl.1 rfl (Nat.le_of_ble_eq_true rfl) d_Mo_headerByte_255 ⟨Nat.zero_le _, Nat.zero_le _⟩ (fun I9 R10 h H locs V => ?_)
      refine lv_goto (pc := 258) (tgt := 273) hx hb d_Mo_headerByte_258 (by decide) ?_
      exact u_retv (pc := 273) X V hr hlk hsz h d_Mo_headerByte_273
  · have h := h.2 hc
    refine lv_aload_n (pc := 158) hx hb d_Mo_headerByte_158 rfl (lv_at hl 1 rfl) ?_
    refine lv_iload_n (pc := 159) hx hb d_Mo_headerByte_159 rfl (lv_at hl 2 rfl) ?_
    refine u_cVv (pc := 160) (As := [.int x1]) X V s_Mo_156 (X.fix rfl) rfl rfl rfl (c_Mo_badHeader l D cc L A J t16 t32 _ _ x1 _ h) ⟨rfl, rfl, Nat.le_of_ble_eq_true rfl, Nat.le_of_ble_eq_true rfl⟩ rfl hl.1 rfl (Nat.le_of_ble_eq_true rfl) d_Mo_headerByte_160 ⟨Nat.zero_le _, Nat.zero_le _⟩ (fun I11 R12 h H locs V => ?_)
    exact u_retv (pc := 163) X V hr hlk hsz h d_Mo_headerByte_163
def wp_Mo_headerByte_L128 (Q : UI → UR → Prop) (K63 : UI → UR → Int32 → Int32 → Int32 → Int32 → Prop) (I : UI) (R : UR) (x1 : Int32) (x3 : Int32) (x5 : Int32) (s0 : Int32) : Prop :=
  ∀ v13 : Int32, v13 = x5 + 1 → K63 I R x1 x3 s0 v13
set_option maxHeartbeats 4000000 in
set_option maxRecDepth 100000 in
theorem j_Mo_headerByte_128 (X : uX p s m args c prog_10_method_25_code 7 "FrameFerryModel" D cc L A t16 t32) (hr : meth.sig.returnType = none) (hlk : meth.locks = false) (hsz : sz = s.heap.size) {Q : UI → UR → Prop} {K63 : UI → UR → Int32 → Int32 → Int32 → Int32 → Prop} (hK63 : ∀ (I : UI) (R : UR) (x1 : Int32) (x3 : Int32) (x4 : Int32) (x5 : Int32) (H : Heap) (locs : List Loc) (ls : Array Slot), uV s D cc L A J I R H locs → lv_has ls 7 [(0, .ref (A 80)), (1, .int x1), (3, .int x3), (4, .int x4), (5, .int x5)] → K63 I R x1 x3 x4 x5 → W p l e rm_Mo_headerByte s m args below meth c H locs 0 0 (MQ below (va_Qv (fun u : UI × UR => Q u.1 u.2) (uBv D cc L A J) (uA L A sz)) args s 0 0 (uA L A sz)) (F0 m 63 ls [])) {I : UI} {R : UR} {x1 : Int32} {x3 : Int32} {x5 : Int32} {s0 : Int32} {H : Heap} {locs : List Loc} {ls : Array Slot} (V : uV s D cc L A J I R H locs) (hl : lv_has ls 7 [(0, .ref (A 80)), (1, .int x1), (3, .int x3), (5, .int x5)]) (h : wp_Mo_headerByte_L128 Q K63 I R x1 x3 x5 s0) : W p l e rm_Mo_headerByte s m args below meth c H locs 0 0 (MQ below (va_Qv (fun u : UI × UR => Q u.1 u.2) (uBv D cc L A J) (uA L A sz)) args s 0 0 (uA L A sz)) (F0 m 128 ls [.int s0]) := by
  have hx := X.1
  have hb := X.2.1
  unfold wp_Mo_headerByte_L128 at h
  refine lv_istore (pc := 128) (lv' := [(4, .int s0), (0, .ref (A 80)), (1, .int x1), (3, .int x3), (5, .int x5)]) hx hb d_Mo_headerByte_128 hl (by decide) rfl (fun ls hl => ?_)
  obtain ⟨v13, ev13⟩ : ∃ z : Int32, z = x5 + 1 := ⟨_, rfl⟩
  have h := h v13 ev13
  refine lv_iinc (pc := 130) (k := 4) (v := v13) (lv' := [(5, .int v13), (4, .int s0), (0, .ref (A 80)), (1, .int x1), (3, .int x3)]) hx hb d_Mo_headerByte_130 hl rfl (by rw [ev13]; rfl) (by decide) rfl (fun ls hl => ?_)
  refine lv_goto (pc := 133) (tgt := 63) hx hb d_Mo_headerByte_133 (by decide) ?_
  exact hK63 I R x1 x3 s0 v13 H locs ls V (lv_sub hl [2, 3, 4, 1, 0] rfl) h
def wp_Mo_headerByte_L127 (Q : UI → UR → Prop) (K63 : UI → UR → Int32 → Int32 → Int32 → Int32 → Prop) (I : UI) (R : UR) (x1 : Int32) (x3 : Int32) (x5 : Int32) : Prop :=
  wp_Mo_headerByte_L128 Q K63 I R x1 x3 x5 0
set_option maxHeartbeats 4000000 in
set_option maxRecDepth 100000 in
theorem j_Mo_headerByte_127 (X : uX p s m args c prog_10_method_25_code 7 "FrameFerryModel" D cc L A t16 t32) (hr : meth.sig.returnType = none) (hlk : meth.locks = false) (hsz : sz = s.heap.size) {Q : UI → UR → Prop} {K63 : UI → UR → Int32 → Int32 → Int32 → Int32 → Prop} (hK63 : ∀ (I : UI) (R : UR) (x1 : Int32) (x3 : Int32) (x4 : Int32) (x5 : Int32) (H : Heap) (locs : List Loc) (ls : Array Slot), uV s D cc L A J I R H locs → lv_has ls 7 [(0, .ref (A 80)), (1, .int x1), (3, .int x3), (4, .int x4), (5, .int x5)] → K63 I R x1 x3 x4 x5 → W p l e rm_Mo_headerByte s m args below meth c H locs 0 0 (MQ below (va_Qv (fun u : UI × UR => Q u.1 u.2) (uBv D cc L A J) (uA L A sz)) args s 0 0 (uA L A sz)) (F0 m 63 ls [])) {I : UI} {R : UR} {x1 : Int32} {x3 : Int32} {x5 : Int32} {H : Heap} {locs : List Loc} {ls : Array Slot} (V : uV s D cc L A J I R H locs) (hl : lv_has ls 7 [(0, .ref (A 80)), (1, .int x1), (3, .int x3), (5, .int x5)]) (h : wp_Mo_headerByte_L127 Q K63 I R x1 x3 x5) : W p l e rm_Mo_headerByte s m args below meth c H locs 0 0 (MQ below (va_Qv (fun u : UI × UR => Q u.1 u.2) (uBv D cc L A J) (uA L A sz)) args s 0 0 (uA L A sz)) (F0 m 127 ls []) := by
  have hx := X.1
  have hb := X.2.1
  unfold wp_Mo_headerByte_L127 at h
  refine lv_iconst (pc := 127) (v := 0) hx hb d_Mo_headerByte_127 (by decide) ?_
  exact j_Mo_headerByte_128 X hr hlk hsz hK63 V (lv_sub hl [0, 1, 2, 3] rfl) h
def wp_Mo_headerByte_L115 (Q : UI → UR → Prop) (K63 : UI → UR → Int32 → Int32 → Int32 → Int32 → Prop) (I : UI) (R : UR) (x1 : Int32) (x3 : Int32) (x5 : Int32) (s0 : Int32) (s1 : Int32) (s2 : Int32) (s4 : Int32) : Prop :=
  wp_Mo_checkByte I R 88 s2 s1 s0 x5 (fun r16 I14 R15 => ((¬ s4 = r16 → wp_Mo_headerByte_L127 Q K63 I14 R15 x1 x3 x5) ∧ (s4 = r16 → wp_Mo_headerByte_L128 Q K63 I14 R15 x1 x3 x5 1)))
set_option maxHeartbeats 4000000 in
set_option maxRecDepth 100000 in
theorem j_Mo_headerByte_115 (X : uX p s m args c prog_10_method_25_code 7 "FrameFerryModel" D cc L A t16 t32) (hr : meth.sig.returnType = none) (hlk : meth.locks = false) (hsz : sz = s.heap.size) {Q : UI → UR → Prop} {K63 : UI → UR → Int32 → Int32 → Int32 → Int32 → Prop} (hK63 : ∀ (I : UI) (R : UR) (x1 : Int32) (x3 : Int32) (x4 : Int32) (x5 : Int32) (H : Heap) (locs : List Loc) (ls : Array Slot), uV s D cc L A J I R H locs → lv_has ls 7 [(0, .ref (A 80)), (1, .int x1), (3, .int x3), (4, .int x4), (5, .int x5)] → K63 I R x1 x3 x4 x5 → W p l e rm_Mo_headerByte s m args below meth c H locs 0 0 (MQ below (va_Qv (fun u : UI × UR => Q u.1 u.2) (uBv D cc L A J) (uA L A sz)) args s 0 0 (uA L A sz)) (F0 m 63 ls [])) {I : UI} {R : UR} {x1 : Int32} {x3 : Int32} {x5 : Int32} {s0 : Int32} {s1 : Int32} {s2 : Int32} {s4 : Int32} {H : Heap} {locs : List Loc} {ls : Array Slot} (V : uV s D cc L A J I R H locs) (hl : lv_has ls 7 [(0, .ref (A 80)), (1, .int x1), (3, .int x3), (5, .int x5)]) (h : wp_Mo_headerByte_L115 Q K63 I R x1 x3 x5 s0 s1 s2 s4) : W p l e rm_Mo_headerByte s m args below meth c H locs 0 0 (MQ below (va_Qv (fun u : UI × UR => Q u.1 u.2) (uBv D cc L A J) (uA L A sz)) args s 0 0 (uA L A sz)) (F0 m 115 ls [.int s0, .int s1, .int s2, .ref (A 88), .int s4]) := by
  have hx := X.1
  have hb := X.2.1
  unfold wp_Mo_headerByte_L115 at h
  refine lv_iload (pc := 115) hx hb d_Mo_headerByte_115 (lv_at hl 3 rfl) ?_
  refine u_cSi (pc := 117) (As := [.ref (A 88), .int s2, .int s1, .int s0, .int x5]) X V s_Mo_124 (c_Mo_checkByte l D cc L A J t16 t32 _ _ 88 ⟨(X.fix rfl), rfl⟩ s2 s1 s0 x5 _ h) ⟨rfl, rfl, Nat.le_of_ble_eq_true rfl, Nat.le_of_ble_eq_true rfl⟩ rfl hl.1 rfl (Nat.le_of_ble_eq_true rfl) d_Mo_headerByte_117 ⟨Nat.zero_le _, Nat.zero_le _⟩ (fun r16 I14 R15 h H locs V => ?_)
  refine lv_icmp_ne (pc := 120) (tgt := 127) hx hb d_Mo_headerByte_120 (by decide) (fun hc => ?_) (fun hc => ?_)
  · have h := h.1 hc
    exact j_Mo_headerByte_127 X hr hlk hsz hK63 V (lv_sub hl [0, 1, 2, 3] rfl) h
  · have h := h.2 hc
    refine lv_iconst (pc := 123) (v := 1) hx hb d_Mo_headerByte_123 (by decide) ?_
    refine lv_goto (pc := 124) (tgt := 128) hx hb d_Mo_headerByte_124 (by decide) ?_
    exact j_Mo_headerByte_128 X hr hlk hsz hK63 V (lv_sub hl [0, 1, 2, 3] rfl) h
def wp_Mo_headerByte_L63 (Q : UI → UR → Prop) : Nat → UI → UR → Int32 → Int32 → Int32 → Int32 → Prop
  | 0, _, _, _, _, _, _ => False
  | n + 1, I, R, x1, x3, x4, x5 => ((x3 - 5 ≤ x5 → vp_in x1 2 ∧ ((¬ I 83 x1.toNatClampNeg = 3 → wp_Mo_headerByte_L151 Q I R x1 x4 0) ∧ (I 83 x1.toNatClampNeg = 3 → wp_Mo_headerByte_L151 Q I R x1 x4 1))) ∧ (¬ x3 - 5 ≤ x5 → ((x4 = 0 → wp_Mo_headerByte_L127 Q (fun I R x1 x3 x4 x5 => wp_Mo_headerByte_L63 Q n I R x1 x3 x4 x5) I R x1 x3 x5) ∧ (¬ x4 = 0 → vp_in (((80 * x1) + 5) + x5) 160 ∧ vp_in x1 2 ∧ ((¬ I 87 x1.toNatClampNeg = 32 → wp_Mo_headerByte_L115 Q (fun I R x1 x3 x4 x5 => wp_Mo_headerByte_L63 Q n I R x1 x3 x4 x5) I R x1 x3 x5 0 5 (80 * x1) (I 88 (((80 * x1) + 5) + x5).toNatClampNeg)) ∧ (I 87 x1.toNatClampNeg = 32 → wp_Mo_headerByte_L115 Q (fun I R x1 x3 x4 x5 => wp_Mo_headerByte_L63 Q n I R x1 x3 x4 x5) I R x1 x3 x5 1 5 (80 * x1) (I 88 (((80 * x1) + 5) + x5).toNatClampNeg)))))))
set_option maxHeartbeats 4000000 in
set_option maxRecDepth 100000 in
theorem j_Mo_headerByte_63 (X : uX p s m args c prog_10_method_25_code 7 "FrameFerryModel" D cc L A t16 t32) (hr : meth.sig.returnType = none) (hlk : meth.locks = false) (hsz : sz = s.heap.size) {Q : UI → UR → Prop} : ∀ (n : Nat) (I : UI) (R : UR) (x1 : Int32) (x3 : Int32) (x4 : Int32) (x5 : Int32) (H : Heap) (locs : List Loc) (ls : Array Slot), uV s D cc L A J I R H locs → lv_has ls 7 [(0, .ref (A 80)), (1, .int x1), (3, .int x3), (4, .int x4), (5, .int x5)] → wp_Mo_headerByte_L63 Q n I R x1 x3 x4 x5 → W p l e rm_Mo_headerByte s m args below meth c H locs 0 0 (MQ below (va_Qv (fun u : UI × UR => Q u.1 u.2) (uBv D cc L A J) (uA L A sz)) args s 0 0 (uA L A sz)) (F0 m 63 ls []) := by
  intro n
  induction n with
  | zero => exact fun I R x1 x3 x4 x5 H locs ls V hl h => False.elim h
  | succ n ih =>
    intro I R x1 x3 x4 x5 H locs ls V hl h
    have hx := X.1
    have hb := X.2.1
    rw [wp_Mo_headerByte_L63] at h
    refine lv_iload (pc := 63) hx hb d_Mo_headerByte_63 (lv_at hl 4 rfl) ?_
    refine lv_iload_n (pc := 65) hx hb d_Mo_headerByte_65 rfl (lv_at hl 2 rfl) ?_
    refine lv_iconst (pc := 66) (v := 5) hx hb d_Mo_headerByte_66 (by decide) ?_
    refine lv_isub (pc := 67) hx hb d_Mo_headerByte_67 ?_
    refine lv_icmp_ge (pc := 68) (tgt := 136) hx hb d_Mo_headerByte_68 (by decide) (fun hc => ?_) (fun hc => ?_)
    · have h := h.1 hc
      refine lv_aload_n (pc := 136) hx hb d_Mo_headerByte_136 rfl (lv_at hl 0 rfl) ?_
      refine u_getr (pc := 137) (o' := 83) X V (X.fix rfl) rfl rfl f_Mo_16 rfl rfl d_Mo_headerByte_137 ?_
      refine lv_iload_n (pc := 140) hx hb d_Mo_headerByte_140 rfl (lv_at hl 1 rfl) ?_
      refine u_iald (pc := 141) X V (X.fix rfl) rfl rfl h.1 d_Mo_headerByte_141 ?_
      have h := h.2
      refine lv_iconst (pc := 142) (v := 3) hx hb d_Mo_headerByte_142 (by decide) ?_
      refine lv_icmp_ne (pc := 143) (tgt := 150) hx hb d_Mo_headerByte_143 (by decide) (fun hc => ?_) (fun hc => ?_)
      · have h := h.1 hc
        refine lv_iconst (pc := 150) (v := 0) hx hb d_Mo_headerByte_150 (by decide) ?_
        exact j_Mo_headerByte_151 X hr hlk hsz V (lv_sub hl [0, 1, 3] rfl) h
      · have h := h.2 hc
        refine lv_iconst (pc := 146) (v := 1) hx hb d_Mo_headerByte_146 (by decide) ?_
        refine lv_goto (pc := 147) (tgt := 151) hx hb d_Mo_headerByte_147 (by decide) ?_
        exact j_Mo_headerByte_151 X hr hlk hsz V (lv_sub hl [0, 1, 3] rfl) h
    · have h := h.2 hc
      refine lv_iload (pc := 71) hx hb d_Mo_headerByte_71 (lv_at hl 3 rfl) ?_
      refine lv_if_eq (pc := 73) (tgt := 127) hx hb d_Mo_headerByte_73 (by decide) (fun hc => ?_) (fun hc => ?_)
      · have h := h.1 hc
        exact j_Mo_headerByte_127 X hr hlk hsz ih V (lv_sub hl [0, 1, 2, 4] rfl) h
      · have h := h.2 hc
        refine lv_aload_n (pc := 76) hx hb d_Mo_headerByte_76 rfl (lv_at hl 0 rfl) ?_
        refine u_getr (pc := 77) (o' := 88) X V (X.fix rfl) rfl rfl f_Mo_32 rfl rfl d_Mo_headerByte_77 ?_
        refine lv_bipush (pc := 80) (v := 80) hx hb d_Mo_headerByte_80 (by decide) ?_
        refine lv_iload_n (pc := 82) hx hb d_Mo_headerByte_82 rfl (lv_at hl 1 rfl) ?_
        refine lv_imul (pc := 83) hx hb d_Mo_headerByte_83 ?_
        refine lv_iconst (pc := 84) (v := 5) hx hb d_Mo_headerByte_84 (by decide) ?_
        refine lv_iadd (pc := 85) hx hb d_Mo_headerByte_85 ?_
        refine lv_iload (pc := 86) hx hb d_Mo_headerByte_86 (lv_at hl 4 rfl) ?_
        refine lv_iadd (pc := 88) hx hb d_Mo_headerByte_88 ?_
        refine u_iald (pc := 89) X V (X.fix rfl) rfl rfl h.1 d_Mo_headerByte_89 ?_
        have h := h.2
        refine lv_aload_n (pc := 90) hx hb d_Mo_headerByte_90 rfl (lv_at hl 0 rfl) ?_
        refine u_getr (pc := 91) (o' := 88) X V (X.fix rfl) rfl rfl f_Mo_32 rfl rfl d_Mo_headerByte_91 ?_
        refine lv_bipush (pc := 94) (v := 80) hx hb d_Mo_headerByte_94 (by decide) ?_
        refine lv_iload_n (pc := 96) hx hb d_Mo_headerByte_96 rfl (lv_at hl 1 rfl) ?_
        refine lv_imul (pc := 97) hx hb d_Mo_headerByte_97 ?_
        refine lv_iconst (pc := 98) (v := 5) hx hb d_Mo_headerByte_98 (by decide) ?_
        refine lv_aload_n (pc := 99) hx hb d_Mo_headerByte_99 rfl (lv_at hl 0 rfl) ?_
        refine u_getr (pc := 100) (o' := 87) X V (X.fix rfl) rfl rfl f_Mo_29 rfl rfl d_Mo_headerByte_100 ?_
        refine lv_iload_n (pc := 103) hx hb d_Mo_headerByte_103 rfl (lv_at hl 1 rfl) ?_
        refine u_iald (pc := 104) X V (X.fix rfl) rfl rfl h.1 d_Mo_headerByte_104 ?_
        have h := h.2
        refine lv_bipush (pc := 105) (v := 32) hx hb d_Mo_headerByte_105 (by decide) ?_
        refine lv_icmp_ne (pc := 107) (tgt := 114) hx hb d_Mo_headerByte_107 (by decide) (fun hc => ?_) (fun hc => ?_)
        · have h := h.1 hc
          refine lv_iconst (pc := 114) (v := 0) hx hb d_Mo_headerByte_114 (by decide) ?_
          exact j_Mo_headerByte_115 X hr hlk hsz ih V (lv_sub hl [0, 1, 2, 4] rfl) h
        · have h := h.2 hc
          refine lv_iconst (pc := 110) (v := 1) hx hb d_Mo_headerByte_110 (by decide) ?_
          refine lv_goto (pc := 111) (tgt := 115) hx hb d_Mo_headerByte_111 (by decide) ?_
          exact j_Mo_headerByte_115 X hr hlk hsz ih V (lv_sub hl [0, 1, 2, 4] rfl) h
def wp_Mo_headerByte_L45 (Q : UI → UR → Prop) (I : UI) (R : UR) (x1 : Int32) (s0 : Int32) : Prop :=
  vp_in x1 2 ∧ ((s0 ≤ I 84 x1.toNatClampNeg → (∃ n63 : Nat, wp_Mo_headerByte_L63 Q n63 I R x1 s0 1 0)) ∧ (¬ s0 ≤ I 84 x1.toNatClampNeg → Q I R))
set_option maxHeartbeats 4000000 in
set_option maxRecDepth 100000 in
theorem j_Mo_headerByte_45 (X : uX p s m args c prog_10_method_25_code 7 "FrameFerryModel" D cc L A t16 t32) (hr : meth.sig.returnType = none) (hlk : meth.locks = false) (hsz : sz = s.heap.size) {Q : UI → UR → Prop} {I : UI} {R : UR} {x1 : Int32} {s0 : Int32} {H : Heap} {locs : List Loc} {ls : Array Slot} (V : uV s D cc L A J I R H locs) (hl : lv_has ls 7 [(0, .ref (A 80)), (1, .int x1)]) (h : wp_Mo_headerByte_L45 Q I R x1 s0) : W p l e rm_Mo_headerByte s m args below meth c H locs 0 0 (MQ below (va_Qv (fun u : UI × UR => Q u.1 u.2) (uBv D cc L A J) (uA L A sz)) args s 0 0 (uA L A sz)) (F0 m 45 ls [.int s0]) := by
  have hx := X.1
  have hb := X.2.1
  unfold wp_Mo_headerByte_L45 at h
  refine lv_istore_n (pc := 45) (lv' := [(3, .int s0), (0, .ref (A 80)), (1, .int x1)]) hx hb d_Mo_headerByte_45 rfl hl (by decide) rfl (fun ls hl => ?_)
  refine lv_aload_n (pc := 46) hx hb d_Mo_headerByte_46 rfl (lv_at hl 1 rfl) ?_
  refine u_getr (pc := 47) (o' := 84) X V (X.fix rfl) rfl rfl f_Mo_19 rfl rfl d_Mo_headerByte_47 ?_
  refine lv_iload_n (pc := 50) hx hb d_Mo_headerByte_50 rfl (lv_at hl 2 rfl) ?_
  refine u_iald (pc := 51) X V (X.fix rfl) rfl rfl h.1 d_Mo_headerByte_51 ?_
  have h := h.2
  refine lv_iload_n (pc := 52) hx hb d_Mo_headerByte_52 rfl (lv_at hl 0 rfl) ?_
  refine lv_icmp_ge (pc := 53) (tgt := 57) hx hb d_Mo_headerByte_53 (by decide) (fun hc => ?_) (fun hc => ?_)
  · have h := h.1 hc
    refine lv_iconst (pc := 57) (v := 1) hx hb d_Mo_headerByte_57 (by decide) ?_
    refine lv_istore (pc := 58) (lv' := [(4, .int 1), (3, .int s0), (0, .ref (A 80)), (1, .int x1)]) hx hb d_Mo_headerByte_58 hl (by decide) rfl (fun ls hl => ?_)
    refine lv_iconst (pc := 60) (v := 0) hx hb d_Mo_headerByte_60 (by decide) ?_
    refine lv_istore (pc := 61) (lv' := [(5, .int 0), (4, .int 1), (3, .int s0), (0, .ref (A 80)), (1, .int x1)]) hx hb d_Mo_headerByte_61 hl (by decide) rfl (fun ls hl => ?_)
    obtain ⟨n63, h⟩ := h
    exact j_Mo_headerByte_63 X hr hlk hsz n63 I R x1 s0 1 0 H locs ls V (lv_sub hl [3, 4, 2, 1, 0] rfl) h
  · have h := h.2 hc
    exact u_retv (pc := 56) X V hr hlk hsz h d_Mo_headerByte_56
def wp_Mo_headerByte (I : UI) (R : UR) (x1 : Int32) (x2 : Int32) (Q : UI → UR → Prop) : Prop :=
  vp_in x1 2 ∧ vp_in ((80 * x1) + (I 84 x1.toNatClampNeg)) 160 ∧ ∀ I1 : UI, I1 = u2 I 88 (((80 * x1) + (I 84 x1.toNatClampNeg)).toNatClampNeg) x2 → vp_in x1 2 ∧ vp_in x1 2 ∧ ∀ I2 : UI, I2 = u2 I1 84 x1.toNatClampNeg ((I1 84 x1.toNatClampNeg) + 1) → vp_in x1 2 ∧ ((¬ I2 87 x1.toNatClampNeg = 32 → wp_Mo_headerByte_L45 Q I2 R x1 7) ∧ (I2 87 x1.toNatClampNeg = 32 → wp_Mo_headerByte_L45 Q I2 R x1 9))
set_option maxHeartbeats 4000000 in
set_option maxRecDepth 100000 in
theorem c_Mo_headerByte (l : Launch) (D : va_G) (cc : Nat → ClassId) (L : List Nat) (A : Nat → Nat) (J : Nat → Int64) (t16 t32 : Nat) (I : UI) (R : UR) (x1 : Int32) (x2 : Int32) (Q : UI → UR → Prop) (h : wp_Mo_headerByte I R x1 x2 Q) : uMv l y_Mo_headerByte (.code y_Mo_headerByte prog_10_method_25_code 7 none) rm_Mo_headerByte [.ref (A 80), .int x1, .int x2] D cc L A J t16 t32 I R Q := by
  intro sz
  refine u_entry (by decide) (Nat.le_of_ble_eq_true rfl) (fun p e s m args below meth c hsz X V hr hlk ls hl => ?_)
  have X : uX p s m args c prog_10_method_25_code 7 "FrameFerryModel" D cc L A t16 t32 := X
  have hx := X.1
  have hb := X.2.1
  have hl : lv_has ls 7 [(0, .ref (A 80)), (1, .int x1), (2, .int x2)] := hl
  unfold wp_Mo_headerByte at h
  generalize hH : s.heap = H at V ⊢
  generalize hlo : ([] : List Loc) = locs at V ⊢
  refine lv_aload_n (pc := 0) hx hb d_Mo_headerByte_0 rfl (lv_at hl 0 rfl) ?_
  refine u_getr (pc := 1) (o' := 88) X V (X.fix rfl) rfl rfl f_Mo_32 rfl rfl d_Mo_headerByte_1 ?_
  refine lv_bipush (pc := 4) (v := 80) hx hb d_Mo_headerByte_4 (by decide) ?_
  refine lv_iload_n (pc := 6) hx hb d_Mo_headerByte_6 rfl (lv_at hl 1 rfl) ?_
  refine lv_imul (pc := 7) hx hb d_Mo_headerByte_7 ?_
  refine lv_aload_n (pc := 8) hx hb d_Mo_headerByte_8 rfl (lv_at hl 0 rfl) ?_
  refine u_getr (pc := 9) (o' := 84) X V (X.fix rfl) rfl rfl f_Mo_19 rfl rfl d_Mo_headerByte_9 ?_
  refine lv_iload_n (pc := 12) hx hb d_Mo_headerByte_12 rfl (lv_at hl 1 rfl) ?_
  refine u_iald (pc := 13) X V (X.fix rfl) rfl rfl h.1 d_Mo_headerByte_13 ?_
  have h := h.2
  refine lv_iadd (pc := 14) hx hb d_Mo_headerByte_14 ?_
  refine lv_iload_n (pc := 15) hx hb d_Mo_headerByte_15 rfl (lv_at hl 2 rfl) ?_
  refine u_iast (pc := 16) X V (X.fix rfl) rfl rfl h.1 d_Mo_headerByte_16 (fun I1 eI1 H locs V => ?_)
  have h := h.2 I1 eI1
  refine lv_aload_n (pc := 17) hx hb d_Mo_headerByte_17 rfl (lv_at hl 0 rfl) ?_
  refine u_getr (pc := 18) (o' := 84) X V (X.fix rfl) rfl rfl f_Mo_19 rfl rfl d_Mo_headerByte_18 ?_
  refine lv_iload_n (pc := 21) hx hb d_Mo_headerByte_21 rfl (lv_at hl 1 rfl) ?_
  refine lv_dup2_11 (pc := 22) hx hb d_Mo_headerByte_22 rfl rfl ?_
  refine u_iald (pc := 23) X V (X.fix rfl) rfl rfl h.1 d_Mo_headerByte_23 ?_
  have h := h.2
  refine lv_iconst (pc := 24) (v := 1) hx hb d_Mo_headerByte_24 (by decide) ?_
  refine lv_iadd (pc := 25) hx hb d_Mo_headerByte_25 ?_
  refine u_iast (pc := 26) X V (X.fix rfl) rfl rfl h.1 d_Mo_headerByte_26 (fun I2 eI2 H locs V => ?_)
  have h := h.2 I2 eI2
  refine lv_aload_n (pc := 27) hx hb d_Mo_headerByte_27 rfl (lv_at hl 0 rfl) ?_
  refine u_getr (pc := 28) (o' := 87) X V (X.fix rfl) rfl rfl f_Mo_29 rfl rfl d_Mo_headerByte_28 ?_
  refine lv_iload_n (pc := 31) hx hb d_Mo_headerByte_31 rfl (lv_at hl 1 rfl) ?_
  refine u_iald (pc := 32) X V (X.fix rfl) rfl rfl h.1 d_Mo_headerByte_32 ?_
  have h := h.2
  refine lv_bipush (pc := 33) (v := 32) hx hb d_Mo_headerByte_33 (by decide) ?_
  refine lv_icmp_ne (pc := 35) (tgt := 43) hx hb d_Mo_headerByte_35 (by decide) (fun hc => ?_) (fun hc => ?_)
  · have h := h.1 hc
    refine lv_bipush (pc := 43) (v := 7) hx hb d_Mo_headerByte_43 (by decide) ?_
    exact j_Mo_headerByte_45 X hr hlk hsz V (lv_sub hl [0, 1] rfl) h
  · have h := h.2 hc
    refine lv_bipush (pc := 38) (v := 9) hx hb d_Mo_headerByte_38 (by decide) ?_
    refine lv_goto (pc := 40) (tgt := 45) hx hb d_Mo_headerByte_40 (by decide) ?_
    exact j_Mo_headerByte_45 X hr hlk hsz V (lv_sub hl [0, 1] rfl) h
-- FrameFerryModel.checkPart (I)V
theorem d_Mo_checkPart_0 : decode prog_10_method_30_code 0 = .ok (.aload_n 0, 1) := by decide +kernel
theorem d_Mo_checkPart_1 : decode prog_10_method_30_code 1 = .ok (.getfield 29, 3) := by decide +kernel
theorem d_Mo_checkPart_4 : decode prog_10_method_30_code 4 = .ok (.iconst 1, 1) := by decide +kernel
theorem d_Mo_checkPart_5 : decode prog_10_method_30_code 5 = .ok (.iaload, 1) := by decide +kernel
theorem d_Mo_checkPart_6 : decode prog_10_method_30_code 6 = .ok (.bipush 32, 2) := by decide +kernel
theorem d_Mo_checkPart_8 : decode prog_10_method_30_code 8 = .ok (.if_icmp .ne 7, 3) := by decide +kernel
theorem d_Mo_checkPart_11 : decode prog_10_method_30_code 11 = .ok (.iconst 1, 1) := by decide +kernel
theorem d_Mo_checkPart_12 : decode prog_10_method_30_code 12 = .ok (.goto 4, 3) := by decide +kernel
theorem d_Mo_checkPart_15 : decode prog_10_method_30_code 15 = .ok (.iconst 0, 1) := by decide +kernel
theorem d_Mo_checkPart_16 : decode prog_10_method_30_code 16 = .ok (.istore_n 2, 1) := by decide +kernel
theorem d_Mo_checkPart_17 : decode prog_10_method_30_code 17 = .ok (.iload_n 1, 1) := by decide +kernel
theorem d_Mo_checkPart_18 : decode prog_10_method_30_code 18 = .ok (.aload_n 0, 1) := by decide +kernel
theorem d_Mo_checkPart_19 : decode prog_10_method_30_code 19 = .ok (.getfield 32, 3) := by decide +kernel
theorem d_Mo_checkPart_22 : decode prog_10_method_30_code 22 = .ok (.bipush 80, 2) := by decide +kernel
theorem d_Mo_checkPart_24 : decode prog_10_method_30_code 24 = .ok (.aload_n 0, 1) := by decide +kernel
theorem d_Mo_checkPart_25 : decode prog_10_method_30_code 25 = .ok (.getfield 35, 3) := by decide +kernel
theorem d_Mo_checkPart_28 : decode prog_10_method_30_code 28 = .ok (.iconst 1, 1) := by decide +kernel
theorem d_Mo_checkPart_29 : decode prog_10_method_30_code 29 = .ok (.iaload, 1) := by decide +kernel
theorem d_Mo_checkPart_30 : decode prog_10_method_30_code 30 = .ok (.iconst 1, 1) := by decide +kernel
theorem d_Mo_checkPart_31 : decode prog_10_method_30_code 31 = .ok (.iadd, 1) := by decide +kernel
theorem d_Mo_checkPart_32 : decode prog_10_method_30_code 32 = .ok (.iload_n 2, 1) := by decide +kernel
theorem d_Mo_checkPart_33 : decode prog_10_method_30_code 33 = .ok (.aload_n 0, 1) := by decide +kernel
theorem d_Mo_checkPart_34 : decode prog_10_method_30_code 34 = .ok (.getfield 19, 3) := by decide +kernel
theorem d_Mo_checkPart_37 : decode prog_10_method_30_code 37 = .ok (.iconst 1, 1) := by decide +kernel
theorem d_Mo_checkPart_38 : decode prog_10_method_30_code 38 = .ok (.iaload, 1) := by decide +kernel
theorem d_Mo_checkPart_39 : decode prog_10_method_30_code 39 = .ok (.invokestatic 124, 3) := by decide +kernel
theorem d_Mo_checkPart_42 : decode prog_10_method_30_code 42 = .ok (.if_icmp .ne 7, 3) := by decide +kernel
theorem d_Mo_checkPart_45 : decode prog_10_method_30_code 45 = .ok (.iconst 1, 1) := by decide +kernel
theorem d_Mo_checkPart_46 : decode prog_10_method_30_code 46 = .ok (.goto 4, 3) := by decide +kernel
theorem d_Mo_checkPart_49 : decode prog_10_method_30_code 49 = .ok (.iconst 0, 1) := by decide +kernel
theorem d_Mo_checkPart_50 : decode prog_10_method_30_code 50 = .ok (.istore_n 3, 1) := by decide +kernel
theorem d_Mo_checkPart_51 : decode prog_10_method_30_code 51 = .ok (.iload_n 3, 1) := by decide +kernel
theorem d_Mo_checkPart_52 : decode prog_10_method_30_code 52 = .ok (.ifCond .ne 8, 3) := by decide +kernel
theorem d_Mo_checkPart_55 : decode prog_10_method_30_code 55 = .ok (.aload_n 0, 1) := by decide +kernel
theorem d_Mo_checkPart_56 : decode prog_10_method_30_code 56 = .ok (.iconst 1, 1) := by decide +kernel
theorem d_Mo_checkPart_57 : decode prog_10_method_30_code 57 = .ok (.putfield 189, 3) := by decide +kernel
theorem d_Mo_checkPart_60 : decode prog_10_method_30_code 60 = .ok (.aload_n 0, 1) := by decide +kernel
theorem d_Mo_checkPart_61 : decode prog_10_method_30_code 61 = .ok (.getfield 19, 3) := by decide +kernel
theorem d_Mo_checkPart_64 : decode prog_10_method_30_code 64 = .ok (.iconst 1, 1) := by decide +kernel
theorem d_Mo_checkPart_65 : decode prog_10_method_30_code 65 = .ok (.dup2, 1) := by decide +kernel
theorem d_Mo_checkPart_66 : decode prog_10_method_30_code 66 = .ok (.iaload, 1) := by decide +kernel
theorem d_Mo_checkPart_67 : decode prog_10_method_30_code 67 = .ok (.iconst 1, 1) := by decide +kernel
theorem d_Mo_checkPart_68 : decode prog_10_method_30_code 68 = .ok (.iadd, 1) := by decide +kernel
theorem d_Mo_checkPart_69 : decode prog_10_method_30_code 69 = .ok (.iastore, 1) := by decide +kernel
theorem d_Mo_checkPart_70 : decode prog_10_method_30_code 70 = .ok (.aload_n 0, 1) := by decide +kernel
theorem d_Mo_checkPart_71 : decode prog_10_method_30_code 71 = .ok (.getfield 19, 3) := by decide +kernel
theorem d_Mo_checkPart_74 : decode prog_10_method_30_code 74 = .ok (.iconst 1, 1) := by decide +kernel
theorem d_Mo_checkPart_75 : decode prog_10_method_30_code 75 = .ok (.iaload, 1) := by decide +kernel
theorem d_Mo_checkPart_76 : decode prog_10_method_30_code 76 = .ok (.iload_n 2, 1) := by decide +kernel
theorem d_Mo_checkPart_77 : decode prog_10_method_30_code 77 = .ok (.ifCond .eq 7, 3) := by decide +kernel
theorem d_Mo_checkPart_80 : decode prog_10_method_30_code 80 = .ok (.iconst 4, 1) := by decide +kernel
theorem d_Mo_checkPart_81 : decode prog_10_method_30_code 81 = .ok (.goto 4, 3) := by decide +kernel
theorem d_Mo_checkPart_84 : decode prog_10_method_30_code 84 = .ok (.iconst 2, 1) := by decide +kernel
theorem d_Mo_checkPart_85 : decode prog_10_method_30_code 85 = .ok (.if_icmp .ge 4, 3) := by decide +kernel
theorem d_Mo_checkPart_88 : decode prog_10_method_30_code 88 = .ok (.return_, 1) := by decide +kernel
theorem d_Mo_checkPart_89 : decode prog_10_method_30_code 89 = .ok (.aload_n 0, 1) := by decide +kernel
theorem d_Mo_checkPart_90 : decode prog_10_method_30_code 90 = .ok (.getfield 189, 3) := by decide +kernel
theorem d_Mo_checkPart_93 : decode prog_10_method_30_code 93 = .ok (.istore 4, 2) := by decide +kernel
theorem d_Mo_checkPart_95 : decode prog_10_method_30_code 95 = .ok (.aload_n 0, 1) := by decide +kernel
theorem d_Mo_checkPart_96 : decode prog_10_method_30_code 96 = .ok (.iconst 0, 1) := by decide +kernel
theorem d_Mo_checkPart_97 : decode prog_10_method_30_code 97 = .ok (.putfield 189, 3) := by decide +kernel
theorem d_Mo_checkPart_100 : decode prog_10_method_30_code 100 = .ok (.iload 4, 2) := by decide +kernel
theorem d_Mo_checkPart_102 : decode prog_10_method_30_code 102 = .ok (.ifCond .eq 10, 3) := by decide +kernel
theorem d_Mo_checkPart_105 : decode prog_10_method_30_code 105 = .ok (.aload_n 0, 1) := by decide +kernel
theorem d_Mo_checkPart_106 : decode prog_10_method_30_code 106 = .ok (.invokevirtual 183, 3) := by decide +kernel
theorem d_Mo_checkPart_109 : decode prog_10_method_30_code 109 = .ok (.goto 61, 3) := by decide +kernel
theorem d_Mo_checkPart_112 : decode prog_10_method_30_code 112 = .ok (.aload_n 0, 1) := by decide +kernel
theorem d_Mo_checkPart_113 : decode prog_10_method_30_code 113 = .ok (.getfield 76, 3) := by decide +kernel
theorem d_Mo_checkPart_116 : decode prog_10_method_30_code 116 = .ok (.iconst 2, 1) := by decide +kernel
theorem d_Mo_checkPart_117 : decode prog_10_method_30_code 117 = .ok (.dup2, 1) := by decide +kernel
theorem d_Mo_checkPart_118 : decode prog_10_method_30_code 118 = .ok (.iaload, 1) := by decide +kernel
theorem d_Mo_checkPart_119 : decode prog_10_method_30_code 119 = .ok (.iconst 1, 1) := by decide +kernel
theorem d_Mo_checkPart_120 : decode prog_10_method_30_code 120 = .ok (.iadd, 1) := by decide +kernel
theorem d_Mo_checkPart_121 : decode prog_10_method_30_code 121 = .ok (.iastore, 1) := by decide +kernel
theorem d_Mo_checkPart_122 : decode prog_10_method_30_code 122 = .ok (.aload_n 0, 1) := by decide +kernel
theorem d_Mo_checkPart_123 : decode prog_10_method_30_code 123 = .ok (.iconst 1, 1) := by decide +kernel
theorem d_Mo_checkPart_124 : decode prog_10_method_30_code 124 = .ok (.aload_n 0, 1) := by decide +kernel
theorem d_Mo_checkPart_125 : decode prog_10_method_30_code 125 = .ok (.getfield 38, 3) := by decide +kernel
theorem d_Mo_checkPart_128 : decode prog_10_method_30_code 128 = .ok (.iconst 1, 1) := by decide +kernel
theorem d_Mo_checkPart_129 : decode prog_10_method_30_code 129 = .ok (.iaload, 1) := by decide +kernel
theorem d_Mo_checkPart_130 : decode prog_10_method_30_code 130 = .ok (.bipush 104, 2) := by decide +kernel
theorem d_Mo_checkPart_132 : decode prog_10_method_30_code 132 = .ok (.if_icmp .eq 14, 3) := by decide +kernel
theorem d_Mo_checkPart_135 : decode prog_10_method_30_code 135 = .ok (.aload_n 0, 1) := by decide +kernel
theorem d_Mo_checkPart_136 : decode prog_10_method_30_code 136 = .ok (.getfield 38, 3) := by decide +kernel
theorem d_Mo_checkPart_139 : decode prog_10_method_30_code 139 = .ok (.iconst 1, 1) := by decide +kernel
theorem d_Mo_checkPart_140 : decode prog_10_method_30_code 140 = .ok (.iaload, 1) := by decide +kernel
theorem d_Mo_checkPart_141 : decode prog_10_method_30_code 141 = .ok (.bipush 107, 2) := by decide +kernel
theorem d_Mo_checkPart_143 : decode prog_10_method_30_code 143 = .ok (.if_icmp .ne 7, 3) := by decide +kernel
theorem d_Mo_checkPart_146 : decode prog_10_method_30_code 146 = .ok (.iconst 0, 1) := by decide +kernel
theorem d_Mo_checkPart_147 : decode prog_10_method_30_code 147 = .ok (.goto 4, 3) := by decide +kernel
theorem d_Mo_checkPart_150 : decode prog_10_method_30_code 150 = .ok (.iconst 5, 1) := by decide +kernel
theorem d_Mo_checkPart_151 : decode prog_10_method_30_code 151 = .ok (.invokevirtual 153, 3) := by decide +kernel
theorem d_Mo_checkPart_154 : decode prog_10_method_30_code 154 = .ok (.aload_n 0, 1) := by decide +kernel
theorem d_Mo_checkPart_155 : decode prog_10_method_30_code 155 = .ok (.aload_n 0, 1) := by decide +kernel
theorem d_Mo_checkPart_156 : decode prog_10_method_30_code 156 = .ok (.getfield 35, 3) := by decide +kernel
theorem d_Mo_checkPart_159 : decode prog_10_method_30_code 159 = .ok (.iconst 1, 1) := by decide +kernel
theorem d_Mo_checkPart_160 : decode prog_10_method_30_code 160 = .ok (.iaload, 1) := by decide +kernel
theorem d_Mo_checkPart_161 : decode prog_10_method_30_code 161 = .ok (.aload_n 0, 1) := by decide +kernel
theorem d_Mo_checkPart_162 : decode prog_10_method_30_code 162 = .ok (.getfield 38, 3) := by decide +kernel
theorem d_Mo_checkPart_165 : decode prog_10_method_30_code 165 = .ok (.iconst 1, 1) := by decide +kernel
theorem d_Mo_checkPart_166 : decode prog_10_method_30_code 166 = .ok (.iaload, 1) := by decide +kernel
theorem d_Mo_checkPart_167 : decode prog_10_method_30_code 167 = .ok (.invokevirtual 192, 3) := by decide +kernel
theorem d_Mo_checkPart_170 : decode prog_10_method_30_code 170 = .ok (.return_, 1) := by decide +kernel
def rm_Mo_checkPart : Room := { frames := 6, cells := 0, slots := 0, locals := 140 }
def wp_Mo_checkPart_L151 (Q : UI → UR → Prop) (I : UI) (R : UR) (s0 : Int32) (s1 : Int32) : Prop :=
  wp_Mo_begin I R s1 s0 (fun I8 R9 => vp_in 1 2 ∧ vp_in 1 2 ∧ wp_Mo_goodPacket I8 R9 (I8 89 (1 : Int32).toNatClampNeg) (I8 90 (1 : Int32).toNatClampNeg) (fun I10 R11 => Q I10 R11))
set_option maxHeartbeats 4000000 in
set_option maxRecDepth 100000 in
theorem j_Mo_checkPart_151 (X : uX p s m args c prog_10_method_30_code 5 "FrameFerryModel" D cc L A t16 t32) (hr : meth.sig.returnType = none) (hlk : meth.locks = false) (hsz : sz = s.heap.size) {Q : UI → UR → Prop} {I : UI} {R : UR} {s0 : Int32} {s1 : Int32} {H : Heap} {locs : List Loc} {ls : Array Slot} (V : uV s D cc L A J I R H locs) (hl : lv_has ls 5 [(0, .ref (A 80))]) (h : wp_Mo_checkPart_L151 Q I R s0 s1) : W p l e rm_Mo_checkPart s m args below meth c H locs 0 0 (MQ below (va_Qv (fun u : UI × UR => Q u.1 u.2) (uBv D cc L A J) (uA L A sz)) args s 0 0 (uA L A sz)) (F0 m 151 ls [.int s0, .int s1, .ref (A 80)]) := by
  have hx := X.1
  have hb := X.2.1
  unfold wp_Mo_checkPart_L151 at h
  refine u_cVv (pc := 151) (As := [.int s1, .int s0]) X V s_Mo_153 (X.fix rfl) rfl rfl rfl (c_Mo_begin l D cc L A J t16 t32 _ _ s1 s0 _ h) ⟨rfl, rfl, Nat.le_of_ble_eq_true rfl, Nat.le_of_ble_eq_true rfl⟩ rfl hl.1 rfl (Nat.le_of_ble_eq_true rfl) d_Mo_checkPart_151 ⟨Nat.zero_le _, Nat.zero_le _⟩ (fun I8 R9 h H locs V => ?_)
  refine lv_aload_n (pc := 154) hx hb d_Mo_checkPart_154 rfl (lv_at hl 0 rfl) ?_
  refine lv_aload_n (pc := 155) hx hb d_Mo_checkPart_155 rfl (lv_at hl 0 rfl) ?_
  refine u_getr (pc := 156) (o' := 89) X V (X.fix rfl) rfl rfl f_Mo_35 rfl rfl d_Mo_checkPart_156 ?_
  refine lv_iconst (pc := 159) (v := 1) hx hb d_Mo_checkPart_159 (by decide) ?_
  refine u_iald (pc := 160) X V (X.fix rfl) rfl rfl h.1 d_Mo_checkPart_160 ?_
  have h := h.2
  refine lv_aload_n (pc := 161) hx hb d_Mo_checkPart_161 rfl (lv_at hl 0 rfl) ?_
  refine u_getr (pc := 162) (o' := 90) X V (X.fix rfl) rfl rfl f_Mo_38 rfl rfl d_Mo_checkPart_162 ?_
  refine lv_iconst (pc := 165) (v := 1) hx hb d_Mo_checkPart_165 (by decide) ?_
  refine u_iald (pc := 166) X V (X.fix rfl) rfl rfl h.1 d_Mo_checkPart_166 ?_
  have h := h.2
  refine u_cVv (pc := 167) (As := [.int (I8 89 (1 : Int32).toNatClampNeg), .int (I8 90 (1 : Int32).toNatClampNeg)]) X V s_Mo_192 (X.fix rfl) rfl rfl rfl (c_Mo_goodPacket l D cc L A J t16 t32 _ _ (I8 89 (1 : Int32).toNatClampNeg) (I8 90 (1 : Int32).toNatClampNeg) _ h) ⟨rfl, rfl, Nat.le_of_ble_eq_true rfl, Nat.le_of_ble_eq_true rfl⟩ rfl hl.1 rfl (Nat.le_of_ble_eq_true rfl) d_Mo_checkPart_167 ⟨Nat.zero_le _, Nat.zero_le _⟩ (fun I10 R11 h H locs V => ?_)
  exact u_retv (pc := 170) X V hr hlk hsz h d_Mo_checkPart_170
def wp_Mo_checkPart_L146 (Q : UI → UR → Prop) (I : UI) (R : UR) (s0 : Int32) : Prop :=
  wp_Mo_checkPart_L151 Q I R 0 s0
set_option maxHeartbeats 4000000 in
set_option maxRecDepth 100000 in
theorem j_Mo_checkPart_146 (X : uX p s m args c prog_10_method_30_code 5 "FrameFerryModel" D cc L A t16 t32) (hr : meth.sig.returnType = none) (hlk : meth.locks = false) (hsz : sz = s.heap.size) {Q : UI → UR → Prop} {I : UI} {R : UR} {s0 : Int32} {H : Heap} {locs : List Loc} {ls : Array Slot} (V : uV s D cc L A J I R H locs) (hl : lv_has ls 5 [(0, .ref (A 80))]) (h : wp_Mo_checkPart_L146 Q I R s0) : W p l e rm_Mo_checkPart s m args below meth c H locs 0 0 (MQ below (va_Qv (fun u : UI × UR => Q u.1 u.2) (uBv D cc L A J) (uA L A sz)) args s 0 0 (uA L A sz)) (F0 m 146 ls [.int s0, .ref (A 80)]) := by
  have hx := X.1
  have hb := X.2.1
  unfold wp_Mo_checkPart_L146 at h
  refine lv_iconst (pc := 146) (v := 0) hx hb d_Mo_checkPart_146 (by decide) ?_
  refine lv_goto (pc := 147) (tgt := 151) hx hb d_Mo_checkPart_147 (by decide) ?_
  exact j_Mo_checkPart_151 X hr hlk hsz V (lv_sub hl [0] rfl) h
def wp_Mo_checkPart_L85 (Q : UI → UR → Prop) (I : UI) (R : UR) (s0 : Int32) (s1 : Int32) : Prop :=
  ((s0 ≤ s1 → ∀ v5 : Int32, v5 = I 80 31 → zb 0 ∧ ∀ I6 : UI, I6 = u2 I 80 31 0 → ((v5 = 0 → vp_in 2 4 ∧ vp_in 2 4 ∧ ∀ I7 : UI, I7 = u2 I6 108 ((2 : Int32).toNatClampNeg) ((I6 108 (2 : Int32).toNatClampNeg) + 1) → vp_in 1 2 ∧ ((I7 90 (1 : Int32).toNatClampNeg = 104 → wp_Mo_checkPart_L146 Q I7 R 1) ∧ (¬ I7 90 (1 : Int32).toNatClampNeg = 104 → vp_in 1 2 ∧ ((¬ I7 90 (1 : Int32).toNatClampNeg = 107 → wp_Mo_checkPart_L151 Q I7 R 5 1) ∧ (I7 90 (1 : Int32).toNatClampNeg = 107 → wp_Mo_checkPart_L146 Q I7 R 1))))) ∧ (¬ v5 = 0 → wp_Mo_badPacket I6 R (fun I12 R13 => Q I12 R13)))) ∧ (¬ s0 ≤ s1 → Q I R))
set_option maxHeartbeats 4000000 in
set_option maxRecDepth 100000 in
theorem j_Mo_checkPart_85 (X : uX p s m args c prog_10_method_30_code 5 "FrameFerryModel" D cc L A t16 t32) (hr : meth.sig.returnType = none) (hlk : meth.locks = false) (hsz : sz = s.heap.size) {Q : UI → UR → Prop} {I : UI} {R : UR} {s0 : Int32} {s1 : Int32} {H : Heap} {locs : List Loc} {ls : Array Slot} (V : uV s D cc L A J I R H locs) (hl : lv_has ls 5 [(0, .ref (A 80))]) (h : wp_Mo_checkPart_L85 Q I R s0 s1) : W p l e rm_Mo_checkPart s m args below meth c H locs 0 0 (MQ below (va_Qv (fun u : UI × UR => Q u.1 u.2) (uBv D cc L A J) (uA L A sz)) args s 0 0 (uA L A sz)) (F0 m 85 ls [.int s0, .int s1]) := by
  have hx := X.1
  have hb := X.2.1
  unfold wp_Mo_checkPart_L85 at h
  refine lv_icmp_ge (pc := 85) (tgt := 89) hx hb d_Mo_checkPart_85 (by decide) (fun hc => ?_) (fun hc => ?_)
  · have h := h.1 hc
    refine lv_aload_n (pc := 89) hx hb d_Mo_checkPart_89 rfl (lv_at hl 0 rfl) ?_
    refine u_geti (pc := 90) X V (X.fix rfl) rfl rfl f_Mo_189 rfl d_Mo_checkPart_90 ?_
    refine lv_topi (fun v5 ev5 => ?_)
    have h := h v5 ev5
    refine lv_istore (pc := 93) (lv' := [(4, .int v5), (0, .ref (A 80))]) hx hb d_Mo_checkPart_93 hl (by decide) rfl (fun ls hl => ?_)
    refine lv_aload_n (pc := 95) hx hb d_Mo_checkPart_95 rfl (lv_at hl 1 rfl) ?_
    refine lv_iconst (pc := 96) (v := 0) hx hb d_Mo_checkPart_96 (by decide) ?_
    refine u_putz (pc := 97) X V (X.fix rfl) rfl rfl f_Mo_189 rfl h.1 d_Mo_checkPart_97 (fun I6 eI6 H locs V => ?_)
    have h := h.2 I6 eI6
    refine lv_iload (pc := 100) hx hb d_Mo_checkPart_100 (lv_at hl 0 rfl) ?_
    refine lv_if_eq (pc := 102) (tgt := 112) hx hb d_Mo_checkPart_102 (by decide) (fun hc => ?_) (fun hc => ?_)
    · have h := h.1 hc
      refine lv_aload_n (pc := 112) hx hb d_Mo_checkPart_112 rfl (lv_at hl 1 rfl) ?_
      refine u_getr (pc := 113) (o' := 108) X V (X.fix rfl) rfl rfl f_Mo_76 rfl rfl d_Mo_checkPart_113 ?_
      refine lv_iconst (pc := 116) (v := 2) hx hb d_Mo_checkPart_116 (by decide) ?_
      refine lv_dup2_11 (pc := 117) hx hb d_Mo_checkPart_117 rfl rfl ?_
      refine u_iald (pc := 118) X V (X.fix rfl) rfl rfl h.1 d_Mo_checkPart_118 ?_
      have h := h.2
      refine lv_iconst (pc := 119) (v := 1) hx hb d_Mo_checkPart_119 (by decide) ?_
      refine lv_iadd (pc := 120) hx hb d_Mo_checkPart_120 ?_
      refine u_iast (pc := 121) X V (X.fix rfl) rfl rfl h.1 d_Mo_checkPart_121 (fun I7 eI7 H locs V => ?_)
      have h := h.2 I7 eI7
      refine lv_aload_n (pc := 122) hx hb d_Mo_checkPart_122 rfl (lv_at hl 1 rfl) ?_
      refine lv_iconst (pc := 123) (v := 1) hx hb d_Mo_checkPart_123 (by decide) ?_
      refine lv_aload_n (pc := 124) hx hb d_Mo_checkPart_124 rfl (lv_at hl 1 rfl) ?_
      refine u_getr (pc := 125) (o' := 90) X V (X.fix rfl) rfl rfl f_Mo_38 rfl rfl d_Mo_checkPart_125 ?_
      refine lv_iconst (pc := 128) (v := 1) hx hb d_Mo_checkPart_128 (by decide) ?_
      refine u_iald (pc := 129) X V (X.fix rfl) rfl rfl h.1 d_Mo_checkPart_129 ?_
      have h := h.2
      refine lv_bipush (pc := 130) (v := 104) hx hb d_Mo_checkPart_130 (by decide) ?_
      refine lv_icmp_eq (pc := 132) (tgt := 146) hx hb d_Mo_checkPart_132 (by decide) (fun hc => ?_) (fun hc => ?_)
      · have h := h.1 hc
        exact j_Mo_checkPart_146 X hr hlk hsz V (lv_sub hl [1] rfl) h
      · have h := h.2 hc
        refine lv_aload_n (pc := 135) hx hb d_Mo_checkPart_135 rfl (lv_at hl 1 rfl) ?_
        refine u_getr (pc := 136) (o' := 90) X V (X.fix rfl) rfl rfl f_Mo_38 rfl rfl d_Mo_checkPart_136 ?_
        refine lv_iconst (pc := 139) (v := 1) hx hb d_Mo_checkPart_139 (by decide) ?_
        refine u_iald (pc := 140) X V (X.fix rfl) rfl rfl h.1 d_Mo_checkPart_140 ?_
        have h := h.2
        refine lv_bipush (pc := 141) (v := 107) hx hb d_Mo_checkPart_141 (by decide) ?_
        refine lv_icmp_ne (pc := 143) (tgt := 150) hx hb d_Mo_checkPart_143 (by decide) (fun hc => ?_) (fun hc => ?_)
        · have h := h.1 hc
          refine lv_iconst (pc := 150) (v := 5) hx hb d_Mo_checkPart_150 (by decide) ?_
          exact j_Mo_checkPart_151 X hr hlk hsz V (lv_sub hl [1] rfl) h
        · have h := h.2 hc
          exact j_Mo_checkPart_146 X hr hlk hsz V (lv_sub hl [1] rfl) h
    · have h := h.2 hc
      refine lv_aload_n (pc := 105) hx hb d_Mo_checkPart_105 rfl (lv_at hl 1 rfl) ?_
      refine u_cVv (pc := 106) (As := []) X V s_Mo_183 (X.fix rfl) rfl rfl rfl (c_Mo_badPacket l D cc L A J t16 t32 _ _  _ h) ⟨rfl, rfl, Nat.le_of_ble_eq_true rfl, Nat.le_of_ble_eq_true rfl⟩ rfl hl.1 rfl (Nat.le_of_ble_eq_true rfl) d_Mo_checkPart_106 ⟨Nat.zero_le _, Nat.zero_le _⟩ (fun I12 R13 h H locs V => ?_)
      refine lv_goto (pc := 109) (tgt := 170) hx hb d_Mo_checkPart_109 (by decide) ?_
      exact u_retv (pc := 170) X V hr hlk hsz h d_Mo_checkPart_170
  · have h := h.2 hc
    exact u_retv (pc := 88) X V hr hlk hsz h d_Mo_checkPart_88
def wp_Mo_checkPart_L60 (Q : UI → UR → Prop) (I : UI) (R : UR) (x2 : Int32) : Prop :=
  vp_in 1 2 ∧ vp_in 1 2 ∧ ∀ I4 : UI, I4 = u2 I 84 ((1 : Int32).toNatClampNeg) ((I 84 (1 : Int32).toNatClampNeg) + 1) → vp_in 1 2 ∧ ((x2 = 0 → wp_Mo_checkPart_L85 Q I4 R 2 (I4 84 (1 : Int32).toNatClampNeg)) ∧ (¬ x2 = 0 → wp_Mo_checkPart_L85 Q I4 R 4 (I4 84 (1 : Int32).toNatClampNeg)))
set_option maxHeartbeats 4000000 in
set_option maxRecDepth 100000 in
theorem j_Mo_checkPart_60 (X : uX p s m args c prog_10_method_30_code 5 "FrameFerryModel" D cc L A t16 t32) (hr : meth.sig.returnType = none) (hlk : meth.locks = false) (hsz : sz = s.heap.size) {Q : UI → UR → Prop} {I : UI} {R : UR} {x2 : Int32} {H : Heap} {locs : List Loc} {ls : Array Slot} (V : uV s D cc L A J I R H locs) (hl : lv_has ls 5 [(0, .ref (A 80)), (2, .int x2)]) (h : wp_Mo_checkPart_L60 Q I R x2) : W p l e rm_Mo_checkPart s m args below meth c H locs 0 0 (MQ below (va_Qv (fun u : UI × UR => Q u.1 u.2) (uBv D cc L A J) (uA L A sz)) args s 0 0 (uA L A sz)) (F0 m 60 ls []) := by
  have hx := X.1
  have hb := X.2.1
  unfold wp_Mo_checkPart_L60 at h
  refine lv_aload_n (pc := 60) hx hb d_Mo_checkPart_60 rfl (lv_at hl 0 rfl) ?_
  refine u_getr (pc := 61) (o' := 84) X V (X.fix rfl) rfl rfl f_Mo_19 rfl rfl d_Mo_checkPart_61 ?_
  refine lv_iconst (pc := 64) (v := 1) hx hb d_Mo_checkPart_64 (by decide) ?_
  refine lv_dup2_11 (pc := 65) hx hb d_Mo_checkPart_65 rfl rfl ?_
  refine u_iald (pc := 66) X V (X.fix rfl) rfl rfl h.1 d_Mo_checkPart_66 ?_
  have h := h.2
  refine lv_iconst (pc := 67) (v := 1) hx hb d_Mo_checkPart_67 (by decide) ?_
  refine lv_iadd (pc := 68) hx hb d_Mo_checkPart_68 ?_
  refine u_iast (pc := 69) X V (X.fix rfl) rfl rfl h.1 d_Mo_checkPart_69 (fun I4 eI4 H locs V => ?_)
  have h := h.2 I4 eI4
  refine lv_aload_n (pc := 70) hx hb d_Mo_checkPart_70 rfl (lv_at hl 0 rfl) ?_
  refine u_getr (pc := 71) (o' := 84) X V (X.fix rfl) rfl rfl f_Mo_19 rfl rfl d_Mo_checkPart_71 ?_
  refine lv_iconst (pc := 74) (v := 1) hx hb d_Mo_checkPart_74 (by decide) ?_
  refine u_iald (pc := 75) X V (X.fix rfl) rfl rfl h.1 d_Mo_checkPart_75 ?_
  have h := h.2
  refine lv_iload_n (pc := 76) hx hb d_Mo_checkPart_76 rfl (lv_at hl 1 rfl) ?_
  refine lv_if_eq (pc := 77) (tgt := 84) hx hb d_Mo_checkPart_77 (by decide) (fun hc => ?_) (fun hc => ?_)
  · have h := h.1 hc
    refine lv_iconst (pc := 84) (v := 2) hx hb d_Mo_checkPart_84 (by decide) ?_
    exact j_Mo_checkPart_85 X hr hlk hsz V (lv_sub hl [0] rfl) h
  · have h := h.2 hc
    refine lv_iconst (pc := 80) (v := 4) hx hb d_Mo_checkPart_80 (by decide) ?_
    refine lv_goto (pc := 81) (tgt := 85) hx hb d_Mo_checkPart_81 (by decide) ?_
    exact j_Mo_checkPart_85 X hr hlk hsz V (lv_sub hl [0] rfl) h
def wp_Mo_checkPart_L50 (Q : UI → UR → Prop) (I : UI) (R : UR) (x2 : Int32) (s0 : Int32) : Prop :=
  ((¬ s0 = 0 → wp_Mo_checkPart_L60 Q I R x2) ∧ (s0 = 0 → zb 1 ∧ ∀ I14 : UI, I14 = u2 I 80 31 1 → wp_Mo_checkPart_L60 Q I14 R x2))
set_option maxHeartbeats 4000000 in
set_option maxRecDepth 100000 in
theorem j_Mo_checkPart_50 (X : uX p s m args c prog_10_method_30_code 5 "FrameFerryModel" D cc L A t16 t32) (hr : meth.sig.returnType = none) (hlk : meth.locks = false) (hsz : sz = s.heap.size) {Q : UI → UR → Prop} {I : UI} {R : UR} {x2 : Int32} {s0 : Int32} {H : Heap} {locs : List Loc} {ls : Array Slot} (V : uV s D cc L A J I R H locs) (hl : lv_has ls 5 [(0, .ref (A 80)), (2, .int x2)]) (h : wp_Mo_checkPart_L50 Q I R x2 s0) : W p l e rm_Mo_checkPart s m args below meth c H locs 0 0 (MQ below (va_Qv (fun u : UI × UR => Q u.1 u.2) (uBv D cc L A J) (uA L A sz)) args s 0 0 (uA L A sz)) (F0 m 50 ls [.int s0]) := by
  have hx := X.1
  have hb := X.2.1
  unfold wp_Mo_checkPart_L50 at h
  refine lv_istore_n (pc := 50) (lv' := [(3, .int s0), (0, .ref (A 80)), (2, .int x2)]) hx hb d_Mo_checkPart_50 rfl hl (by decide) rfl (fun ls hl => ?_)
  refine lv_iload_n (pc := 51) hx hb d_Mo_checkPart_51 rfl (lv_at hl 0 rfl) ?_
  refine lv_if_ne (pc := 52) (tgt := 60) hx hb d_Mo_checkPart_52 (by decide) (fun hc => ?_) (fun hc => ?_)
  · have h := h.1 hc
    exact j_Mo_checkPart_60 X hr hlk hsz V (lv_sub hl [1, 2] rfl) h
  · have h := h.2 hc
    refine lv_aload_n (pc := 55) hx hb d_Mo_checkPart_55 rfl (lv_at hl 1 rfl) ?_
    refine lv_iconst (pc := 56) (v := 1) hx hb d_Mo_checkPart_56 (by decide) ?_
    refine u_putz (pc := 57) X V (X.fix rfl) rfl rfl f_Mo_189 rfl h.1 d_Mo_checkPart_57 (fun I14 eI14 H locs V => ?_)
    have h := h.2 I14 eI14
    exact j_Mo_checkPart_60 X hr hlk hsz V (lv_sub hl [1, 2] rfl) h
def wp_Mo_checkPart_L16 (Q : UI → UR → Prop) (I : UI) (R : UR) (x1 : Int32) (s0 : Int32) : Prop :=
  vp_in 1 2 ∧ vp_in 1 2 ∧ wp_Mo_checkByte I R 88 80 ((I 89 (1 : Int32).toNatClampNeg) + 1) s0 (I 84 (1 : Int32).toNatClampNeg) (fun r3 I1 R2 => ((¬ x1 = r3 → wp_Mo_checkPart_L50 Q I1 R2 s0 0) ∧ (x1 = r3 → wp_Mo_checkPart_L50 Q I1 R2 s0 1)))
set_option maxHeartbeats 4000000 in
set_option maxRecDepth 100000 in
theorem j_Mo_checkPart_16 (X : uX p s m args c prog_10_method_30_code 5 "FrameFerryModel" D cc L A t16 t32) (hr : meth.sig.returnType = none) (hlk : meth.locks = false) (hsz : sz = s.heap.size) {Q : UI → UR → Prop} {I : UI} {R : UR} {x1 : Int32} {s0 : Int32} {H : Heap} {locs : List Loc} {ls : Array Slot} (V : uV s D cc L A J I R H locs) (hl : lv_has ls 5 [(0, .ref (A 80)), (1, .int x1)]) (h : wp_Mo_checkPart_L16 Q I R x1 s0) : W p l e rm_Mo_checkPart s m args below meth c H locs 0 0 (MQ below (va_Qv (fun u : UI × UR => Q u.1 u.2) (uBv D cc L A J) (uA L A sz)) args s 0 0 (uA L A sz)) (F0 m 16 ls [.int s0]) := by
  have hx := X.1
  have hb := X.2.1
  unfold wp_Mo_checkPart_L16 at h
  refine lv_istore_n (pc := 16) (lv' := [(2, .int s0), (0, .ref (A 80)), (1, .int x1)]) hx hb d_Mo_checkPart_16 rfl hl (by decide) rfl (fun ls hl => ?_)
  refine lv_iload_n (pc := 17) hx hb d_Mo_checkPart_17 rfl (lv_at hl 2 rfl) ?_
  refine lv_aload_n (pc := 18) hx hb d_Mo_checkPart_18 rfl (lv_at hl 1 rfl) ?_
  refine u_getr (pc := 19) (o' := 88) X V (X.fix rfl) rfl rfl f_Mo_32 rfl rfl d_Mo_checkPart_19 ?_
  refine lv_bipush (pc := 22) (v := 80) hx hb d_Mo_checkPart_22 (by decide) ?_
  refine lv_aload_n (pc := 24) hx hb d_Mo_checkPart_24 rfl (lv_at hl 1 rfl) ?_
  refine u_getr (pc := 25) (o' := 89) X V (X.fix rfl) rfl rfl f_Mo_35 rfl rfl d_Mo_checkPart_25 ?_
  refine lv_iconst (pc := 28) (v := 1) hx hb d_Mo_checkPart_28 (by decide) ?_
  refine u_iald (pc := 29) X V (X.fix rfl) rfl rfl h.1 d_Mo_checkPart_29 ?_
  have h := h.2
  refine lv_iconst (pc := 30) (v := 1) hx hb d_Mo_checkPart_30 (by decide) ?_
  refine lv_iadd (pc := 31) hx hb d_Mo_checkPart_31 ?_
  refine lv_iload_n (pc := 32) hx hb d_Mo_checkPart_32 rfl (lv_at hl 0 rfl) ?_
  refine lv_aload_n (pc := 33) hx hb d_Mo_checkPart_33 rfl (lv_at hl 1 rfl) ?_
  refine u_getr (pc := 34) (o' := 84) X V (X.fix rfl) rfl rfl f_Mo_19 rfl rfl d_Mo_checkPart_34 ?_
  refine lv_iconst (pc := 37) (v := 1) hx hb d_Mo_checkPart_37 (by decide) ?_
  refine u_iald (pc := 38) X V (X.fix rfl) rfl rfl h.1 d_Mo_checkPart_38 ?_
  have h := h.2
  refine u_cSi (pc := 39) (As := [.ref (A 88), .int 80, .int ((I 89 (1 : Int32).toNatClampNeg) + 1), .int s0, .int (I 84 (1 : Int32).toNatClampNeg)]) X V s_Mo_124 (c_Mo_checkByte l D cc L A J t16 t32 _ _ 88 ⟨(X.fix rfl), rfl⟩ 80 ((I 89 (1 : Int32).toNatClampNeg) + 1) s0 (I 84 (1 : Int32).toNatClampNeg) _ h) ⟨rfl, rfl, Nat.le_of_ble_eq_true rfl, Nat.le_of_ble_eq_true rfl⟩ rfl hl.1 rfl (Nat.le_of_ble_eq_true rfl) d_Mo_checkPart_39 ⟨Nat.zero_le _, Nat.zero_le _⟩ (fun r3 I1 R2 h H locs V => ?_)
  refine lv_icmp_ne (pc := 42) (tgt := 49) hx hb d_Mo_checkPart_42 (by decide) (fun hc => ?_) (fun hc => ?_)
  · have h := h.1 hc
    refine lv_iconst (pc := 49) (v := 0) hx hb d_Mo_checkPart_49 (by decide) ?_
    exact j_Mo_checkPart_50 X hr hlk hsz V (lv_sub hl [1, 0] rfl) h
  · have h := h.2 hc
    refine lv_iconst (pc := 45) (v := 1) hx hb d_Mo_checkPart_45 (by decide) ?_
    refine lv_goto (pc := 46) (tgt := 50) hx hb d_Mo_checkPart_46 (by decide) ?_
    exact j_Mo_checkPart_50 X hr hlk hsz V (lv_sub hl [1, 0] rfl) h
def wp_Mo_checkPart (I : UI) (R : UR) (x1 : Int32) (Q : UI → UR → Prop) : Prop :=
  vp_in 1 2 ∧ ((¬ I 87 (1 : Int32).toNatClampNeg = 32 → wp_Mo_checkPart_L16 Q I R x1 0) ∧ (I 87 (1 : Int32).toNatClampNeg = 32 → wp_Mo_checkPart_L16 Q I R x1 1))
set_option maxHeartbeats 4000000 in
set_option maxRecDepth 100000 in
theorem c_Mo_checkPart (l : Launch) (D : va_G) (cc : Nat → ClassId) (L : List Nat) (A : Nat → Nat) (J : Nat → Int64) (t16 t32 : Nat) (I : UI) (R : UR) (x1 : Int32) (Q : UI → UR → Prop) (h : wp_Mo_checkPart I R x1 Q) : uMv l y_Mo_checkPart (.code y_Mo_checkPart prog_10_method_30_code 5 none) rm_Mo_checkPart [.ref (A 80), .int x1] D cc L A J t16 t32 I R Q := by
  intro sz
  refine u_entry (by decide) (Nat.le_of_ble_eq_true rfl) (fun p e s m args below meth c hsz X V hr hlk ls hl => ?_)
  have X : uX p s m args c prog_10_method_30_code 5 "FrameFerryModel" D cc L A t16 t32 := X
  have hx := X.1
  have hb := X.2.1
  have hl : lv_has ls 5 [(0, .ref (A 80)), (1, .int x1)] := hl
  unfold wp_Mo_checkPart at h
  generalize hH : s.heap = H at V ⊢
  generalize hlo : ([] : List Loc) = locs at V ⊢
  refine lv_aload_n (pc := 0) hx hb d_Mo_checkPart_0 rfl (lv_at hl 0 rfl) ?_
  refine u_getr (pc := 1) (o' := 87) X V (X.fix rfl) rfl rfl f_Mo_29 rfl rfl d_Mo_checkPart_1 ?_
  refine lv_iconst (pc := 4) (v := 1) hx hb d_Mo_checkPart_4 (by decide) ?_
  refine u_iald (pc := 5) X V (X.fix rfl) rfl rfl h.1 d_Mo_checkPart_5 ?_
  have h := h.2
  refine lv_bipush (pc := 6) (v := 32) hx hb d_Mo_checkPart_6 (by decide) ?_
  refine lv_icmp_ne (pc := 8) (tgt := 15) hx hb d_Mo_checkPart_8 (by decide) (fun hc => ?_) (fun hc => ?_)
  · have h := h.1 hc
    refine lv_iconst (pc := 15) (v := 0) hx hb d_Mo_checkPart_15 (by decide) ?_
    exact j_Mo_checkPart_16 X hr hlk hsz V (lv_sub hl [0, 1] rfl) h
  · have h := h.2 hc
    refine lv_iconst (pc := 11) (v := 1) hx hb d_Mo_checkPart_11 (by decide) ?_
    refine lv_goto (pc := 12) (tgt := 16) hx hb d_Mo_checkPart_12 (by decide) ?_
    exact j_Mo_checkPart_16 X hr hlk hsz V (lv_sub hl [0, 1] rfl) h
-- FrameFerryModel.plain (II)V
theorem d_Mo_plain_0 : decode prog_10_method_29_code 0 = .ok (.aload_n 0, 1) := by decide +kernel
theorem d_Mo_plain_1 : decode prog_10_method_29_code 1 = .ok (.getfield 16, 3) := by decide +kernel
theorem d_Mo_plain_4 : decode prog_10_method_29_code 4 = .ok (.iload_n 1, 1) := by decide +kernel
theorem d_Mo_plain_5 : decode prog_10_method_29_code 5 = .ok (.iaload, 1) := by decide +kernel
theorem d_Mo_plain_6 : decode prog_10_method_29_code 6 = .ok (.iconst 4, 1) := by decide +kernel
theorem d_Mo_plain_7 : decode prog_10_method_29_code 7 = .ok (.if_icmp .ne 12, 3) := by decide +kernel
theorem d_Mo_plain_10 : decode prog_10_method_29_code 10 = .ok (.aload_n 0, 1) := by decide +kernel
theorem d_Mo_plain_11 : decode prog_10_method_29_code 11 = .ok (.iload_n 1, 1) := by decide +kernel
theorem d_Mo_plain_12 : decode prog_10_method_29_code 12 = .ok (.iload_n 2, 1) := by decide +kernel
theorem d_Mo_plain_13 : decode prog_10_method_29_code 13 = .ok (.invokevirtual 177, 3) := by decide +kernel
theorem d_Mo_plain_16 : decode prog_10_method_29_code 16 = .ok (.goto 66, 3) := by decide +kernel
theorem d_Mo_plain_19 : decode prog_10_method_29_code 19 = .ok (.aload_n 0, 1) := by decide +kernel
theorem d_Mo_plain_20 : decode prog_10_method_29_code 20 = .ok (.getfield 16, 3) := by decide +kernel
theorem d_Mo_plain_23 : decode prog_10_method_29_code 23 = .ok (.iload_n 1, 1) := by decide +kernel
theorem d_Mo_plain_24 : decode prog_10_method_29_code 24 = .ok (.iaload, 1) := by decide +kernel
theorem d_Mo_plain_25 : decode prog_10_method_29_code 25 = .ok (.iconst 5, 1) := by decide +kernel
theorem d_Mo_plain_26 : decode prog_10_method_29_code 26 = .ok (.if_icmp .ne 51, 3) := by decide +kernel
theorem d_Mo_plain_29 : decode prog_10_method_29_code 29 = .ok (.aload_n 0, 1) := by decide +kernel
theorem d_Mo_plain_30 : decode prog_10_method_29_code 30 = .ok (.getfield 19, 3) := by decide +kernel
theorem d_Mo_plain_33 : decode prog_10_method_29_code 33 = .ok (.iload_n 1, 1) := by decide +kernel
theorem d_Mo_plain_34 : decode prog_10_method_29_code 34 = .ok (.iaload, 1) := by decide +kernel
theorem d_Mo_plain_35 : decode prog_10_method_29_code 35 = .ok (.bipush 64, 2) := by decide +kernel
theorem d_Mo_plain_37 : decode prog_10_method_29_code 37 = .ok (.if_icmp .ne 10, 3) := by decide +kernel
theorem d_Mo_plain_40 : decode prog_10_method_29_code 40 = .ok (.aload_n 0, 1) := by decide +kernel
theorem d_Mo_plain_41 : decode prog_10_method_29_code 41 = .ok (.invokevirtual 183, 3) := by decide +kernel
theorem d_Mo_plain_44 : decode prog_10_method_29_code 44 = .ok (.goto 38, 3) := by decide +kernel
theorem d_Mo_plain_47 : decode prog_10_method_29_code 47 = .ok (.aload_n 0, 1) := by decide +kernel
theorem d_Mo_plain_48 : decode prog_10_method_29_code 48 = .ok (.getfield 32, 3) := by decide +kernel
theorem d_Mo_plain_51 : decode prog_10_method_29_code 51 = .ok (.bipush 80, 2) := by decide +kernel
theorem d_Mo_plain_53 : decode prog_10_method_29_code 53 = .ok (.iload_n 1, 1) := by decide +kernel
theorem d_Mo_plain_54 : decode prog_10_method_29_code 54 = .ok (.imul, 1) := by decide +kernel
theorem d_Mo_plain_55 : decode prog_10_method_29_code 55 = .ok (.aload_n 0, 1) := by decide +kernel
theorem d_Mo_plain_56 : decode prog_10_method_29_code 56 = .ok (.getfield 19, 3) := by decide +kernel
theorem d_Mo_plain_59 : decode prog_10_method_29_code 59 = .ok (.iload_n 1, 1) := by decide +kernel
theorem d_Mo_plain_60 : decode prog_10_method_29_code 60 = .ok (.iaload, 1) := by decide +kernel
theorem d_Mo_plain_61 : decode prog_10_method_29_code 61 = .ok (.iadd, 1) := by decide +kernel
theorem d_Mo_plain_62 : decode prog_10_method_29_code 62 = .ok (.iload_n 2, 1) := by decide +kernel
theorem d_Mo_plain_63 : decode prog_10_method_29_code 63 = .ok (.iastore, 1) := by decide +kernel
theorem d_Mo_plain_64 : decode prog_10_method_29_code 64 = .ok (.aload_n 0, 1) := by decide +kernel
theorem d_Mo_plain_65 : decode prog_10_method_29_code 65 = .ok (.getfield 19, 3) := by decide +kernel
theorem d_Mo_plain_68 : decode prog_10_method_29_code 68 = .ok (.iload_n 1, 1) := by decide +kernel
theorem d_Mo_plain_69 : decode prog_10_method_29_code 69 = .ok (.dup2, 1) := by decide +kernel
theorem d_Mo_plain_70 : decode prog_10_method_29_code 70 = .ok (.iaload, 1) := by decide +kernel
theorem d_Mo_plain_71 : decode prog_10_method_29_code 71 = .ok (.iconst 1, 1) := by decide +kernel
theorem d_Mo_plain_72 : decode prog_10_method_29_code 72 = .ok (.iadd, 1) := by decide +kernel
theorem d_Mo_plain_73 : decode prog_10_method_29_code 73 = .ok (.iastore, 1) := by decide +kernel
theorem d_Mo_plain_74 : decode prog_10_method_29_code 74 = .ok (.goto 8, 3) := by decide +kernel
theorem d_Mo_plain_77 : decode prog_10_method_29_code 77 = .ok (.aload_n 0, 1) := by decide +kernel
theorem d_Mo_plain_78 : decode prog_10_method_29_code 78 = .ok (.iload_n 2, 1) := by decide +kernel
theorem d_Mo_plain_79 : decode prog_10_method_29_code 79 = .ok (.invokevirtual 186, 3) := by decide +kernel
theorem d_Mo_plain_82 : decode prog_10_method_29_code 82 = .ok (.return_, 1) := by decide +kernel
def rm_Mo_plain : Room := { frames := 8, cells := 0, slots := 0, locals := 182 }
def wp_Mo_plain (I : UI) (R : UR) (x1 : Int32) (x2 : Int32) (Q : UI → UR → Prop) : Prop :=
  vp_in x1 2 ∧ ((¬ I 83 x1.toNatClampNeg = 4 → vp_in x1 2 ∧ ((¬ I 83 x1.toNatClampNeg = 5 → wp_Mo_checkPart I R x2 (fun I1 R2 => Q I1 R2)) ∧ (I 83 x1.toNatClampNeg = 5 → vp_in x1 2 ∧ ((¬ I 84 x1.toNatClampNeg = 64 → vp_in x1 2 ∧ vp_in ((80 * x1) + (I 84 x1.toNatClampNeg)) 160 ∧ ∀ I3 : UI, I3 = u2 I 88 (((80 * x1) + (I 84 x1.toNatClampNeg)).toNatClampNeg) x2 → vp_in x1 2 ∧ vp_in x1 2 ∧ ∀ I4 : UI, I4 = u2 I3 84 x1.toNatClampNeg ((I3 84 x1.toNatClampNeg) + 1) → Q I4 R) ∧ (I 84 x1.toNatClampNeg = 64 → wp_Mo_badPacket I R (fun I5 R6 => Q I5 R6)))))) ∧ (I 83 x1.toNatClampNeg = 4 → wp_Mo_headerByte I R x1 x2 (fun I7 R8 => Q I7 R8)))
set_option maxHeartbeats 4000000 in
set_option maxRecDepth 100000 in
theorem c_Mo_plain (l : Launch) (D : va_G) (cc : Nat → ClassId) (L : List Nat) (A : Nat → Nat) (J : Nat → Int64) (t16 t32 : Nat) (I : UI) (R : UR) (x1 : Int32) (x2 : Int32) (Q : UI → UR → Prop) (h : wp_Mo_plain I R x1 x2 Q) : uMv l y_Mo_plain (.code y_Mo_plain prog_10_method_29_code 3 none) rm_Mo_plain [.ref (A 80), .int x1, .int x2] D cc L A J t16 t32 I R Q := by
  intro sz
  refine u_entry (by decide) (Nat.le_of_ble_eq_true rfl) (fun p e s m args below meth c hsz X V hr hlk ls hl => ?_)
  have X : uX p s m args c prog_10_method_29_code 3 "FrameFerryModel" D cc L A t16 t32 := X
  have hx := X.1
  have hb := X.2.1
  have hl : lv_has ls 3 [(0, .ref (A 80)), (1, .int x1), (2, .int x2)] := hl
  unfold wp_Mo_plain at h
  generalize hH : s.heap = H at V ⊢
  generalize hlo : ([] : List Loc) = locs at V ⊢
  refine lv_aload_n (pc := 0) hx hb d_Mo_plain_0 rfl (lv_at hl 0 rfl) ?_
  refine u_getr (pc := 1) (o' := 83) X V (X.fix rfl) rfl rfl f_Mo_16 rfl rfl d_Mo_plain_1 ?_
  refine lv_iload_n (pc := 4) hx hb d_Mo_plain_4 rfl (lv_at hl 1 rfl) ?_
  refine u_iald (pc := 5) X V (X.fix rfl) rfl rfl h.1 d_Mo_plain_5 ?_
  have h := h.2
  refine lv_iconst (pc := 6) (v := 4) hx hb d_Mo_plain_6 (by decide) ?_
  refine lv_icmp_ne (pc := 7) (tgt := 19) hx hb d_Mo_plain_7 (by decide) (fun hc => ?_) (fun hc => ?_)
  · have h := h.1 hc
    refine lv_aload_n (pc := 19) hx hb d_Mo_plain_19 rfl (lv_at hl 0 rfl) ?_
    refine u_getr (pc := 20) (o' := 83) X V (X.fix rfl) rfl rfl f_Mo_16 rfl rfl d_Mo_plain_20 ?_
    refine lv_iload_n (pc := 23) hx hb d_Mo_plain_23 rfl (lv_at hl 1 rfl) ?_
    refine u_iald (pc := 24) X V (X.fix rfl) rfl rfl h.1 d_Mo_plain_24 ?_
    have h := h.2
    refine lv_iconst (pc := 25) (v := 5) hx hb d_Mo_plain_25 (by decide) ?_
    refine lv_icmp_ne (pc := 26) (tgt := 77) hx hb d_Mo_plain_26 (by decide) (fun hc => ?_) (fun hc => ?_)
    · have h := h.1 hc
      refine lv_aload_n (pc := 77) hx hb d_Mo_plain_77 rfl (lv_at hl 0 rfl) ?_
      refine lv_iload_n (pc := 78) hx hb d_Mo_plain_78 rfl (lv_at hl 2 rfl) ?_
      refine u_cVv (pc := 79) (As := [.int x2]) X V s_Mo_186 (X.fix rfl) rfl rfl rfl (c_Mo_checkPart l D cc L A J t16 t32 _ _ x2 _ h) ⟨rfl, rfl, Nat.le_of_ble_eq_true rfl, Nat.le_of_ble_eq_true rfl⟩ rfl hl.1 rfl (Nat.le_of_ble_eq_true rfl) d_Mo_plain_79 ⟨Nat.zero_le _, Nat.zero_le _⟩ (fun I1 R2 h H locs V => ?_)
      exact u_retv (pc := 82) X V hr hlk hsz h d_Mo_plain_82
    · have h := h.2 hc
      refine lv_aload_n (pc := 29) hx hb d_Mo_plain_29 rfl (lv_at hl 0 rfl) ?_
      refine u_getr (pc := 30) (o' := 84) X V (X.fix rfl) rfl rfl f_Mo_19 rfl rfl d_Mo_plain_30 ?_
      refine lv_iload_n (pc := 33) hx hb d_Mo_plain_33 rfl (lv_at hl 1 rfl) ?_
      refine u_iald (pc := 34) X V (X.fix rfl) rfl rfl h.1 d_Mo_plain_34 ?_
      have h := h.2
      refine lv_bipush (pc := 35) (v := 64) hx hb d_Mo_plain_35 (by decide) ?_
      refine lv_icmp_ne (pc := 37) (tgt := 47) hx hb d_Mo_plain_37 (by decide) (fun hc => ?_) (fun hc => ?_)
      · have h := h.1 hc
        refine lv_aload_n (pc := 47) hx hb d_Mo_plain_47 rfl (lv_at hl 0 rfl) ?_
        refine u_getr (pc := 48) (o' := 88) X V (X.fix rfl) rfl rfl f_Mo_32 rfl rfl d_Mo_plain_48 ?_
        refine lv_bipush (pc := 51) (v := 80) hx hb d_Mo_plain_51 (by decide) ?_
        refine lv_iload_n (pc := 53) hx hb d_Mo_plain_53 rfl (lv_at hl 1 rfl) ?_
        refine lv_imul (pc := 54) hx hb d_Mo_plain_54 ?_
        refine lv_aload_n (pc := 55) hx hb d_Mo_plain_55 rfl (lv_at hl 0 rfl) ?_
        refine u_getr (pc := 56) (o' := 84) X V (X.fix rfl) rfl rfl f_Mo_19 rfl rfl d_Mo_plain_56 ?_
        refine lv_iload_n (pc := 59) hx hb d_Mo_plain_59 rfl (lv_at hl 1 rfl) ?_
        refine u_iald (pc := 60) X V (X.fix rfl) rfl rfl h.1 d_Mo_plain_60 ?_
        have h := h.2
        refine lv_iadd (pc := 61) hx hb d_Mo_plain_61 ?_
        refine lv_iload_n (pc := 62) hx hb d_Mo_plain_62 rfl (lv_at hl 2 rfl) ?_
        refine u_iast (pc := 63) X V (X.fix rfl) rfl rfl h.1 d_Mo_plain_63 (fun I3 eI3 H locs V => ?_)
        have h := h.2 I3 eI3
        refine lv_aload_n (pc := 64) hx hb d_Mo_plain_64 rfl (lv_at hl 0 rfl) ?_
        refine u_getr (pc := 65) (o' := 84) X V (X.fix rfl) rfl rfl f_Mo_19 rfl rfl d_Mo_plain_65 ?_
        refine lv_iload_n (pc := 68) hx hb d_Mo_plain_68 rfl (lv_at hl 1 rfl) ?_
        refine lv_dup2_11 (pc := 69) hx hb d_Mo_plain_69 rfl rfl ?_
        refine u_iald (pc := 70) X V (X.fix rfl) rfl rfl h.1 d_Mo_plain_70 ?_
        have h := h.2
        refine lv_iconst (pc := 71) (v := 1) hx hb d_Mo_plain_71 (by decide) ?_
        refine lv_iadd (pc := 72) hx hb d_Mo_plain_72 ?_
        refine u_iast (pc := 73) X V (X.fix rfl) rfl rfl h.1 d_Mo_plain_73 (fun I4 eI4 H locs V => ?_)
        have h := h.2 I4 eI4
        refine lv_goto (pc := 74) (tgt := 82) hx hb d_Mo_plain_74 (by decide) ?_
        exact u_retv (pc := 82) X V hr hlk hsz h d_Mo_plain_82
      · have h := h.2 hc
        refine lv_aload_n (pc := 40) hx hb d_Mo_plain_40 rfl (lv_at hl 0 rfl) ?_
        refine u_cVv (pc := 41) (As := []) X V s_Mo_183 (X.fix rfl) rfl rfl rfl (c_Mo_badPacket l D cc L A J t16 t32 _ _  _ h) ⟨rfl, rfl, Nat.le_of_ble_eq_true rfl, Nat.le_of_ble_eq_true rfl⟩ rfl hl.1 rfl (Nat.le_of_ble_eq_true rfl) d_Mo_plain_41 ⟨Nat.zero_le _, Nat.zero_le _⟩ (fun I5 R6 h H locs V => ?_)
        refine lv_goto (pc := 44) (tgt := 82) hx hb d_Mo_plain_44 (by decide) ?_
        exact u_retv (pc := 82) X V hr hlk hsz h d_Mo_plain_82
  · have h := h.2 hc
    refine lv_aload_n (pc := 10) hx hb d_Mo_plain_10 rfl (lv_at hl 0 rfl) ?_
    refine lv_iload_n (pc := 11) hx hb d_Mo_plain_11 rfl (lv_at hl 1 rfl) ?_
    refine lv_iload_n (pc := 12) hx hb d_Mo_plain_12 rfl (lv_at hl 2 rfl) ?_
    refine u_cVv (pc := 13) (As := [.int x1, .int x2]) X V s_Mo_177 (X.fix rfl) rfl rfl rfl (c_Mo_headerByte l D cc L A J t16 t32 _ _ x1 x2 _ h) ⟨rfl, rfl, Nat.le_of_ble_eq_true rfl, Nat.le_of_ble_eq_true rfl⟩ rfl hl.1 rfl (Nat.le_of_ble_eq_true rfl) d_Mo_plain_13 ⟨Nat.zero_le _, Nat.zero_le _⟩ (fun I7 R8 h H locs V => ?_)
    refine lv_goto (pc := 16) (tgt := 82) hx hb d_Mo_plain_16 (by decide) ?_
    exact u_retv (pc := 82) X V hr hlk hsz h d_Mo_plain_82
-- FrameFerryModel.readDigit (II)V
theorem d_Mo_readDigit_0 : decode prog_10_method_27_code 0 = .ok (.iload_n 2, 1) := by decide +kernel
theorem d_Mo_readDigit_1 : decode prog_10_method_27_code 1 = .ok (.invokestatic 173, 3) := by decide +kernel
theorem d_Mo_readDigit_4 : decode prog_10_method_27_code 4 = .ok (.istore_n 3, 1) := by decide +kernel
theorem d_Mo_readDigit_5 : decode prog_10_method_27_code 5 = .ok (.iload_n 3, 1) := by decide +kernel
theorem d_Mo_readDigit_6 : decode prog_10_method_27_code 6 = .ok (.ifCond .ge 11, 3) := by decide +kernel
theorem d_Mo_readDigit_9 : decode prog_10_method_27_code 9 = .ok (.aload_n 0, 1) := by decide +kernel
theorem d_Mo_readDigit_10 : decode prog_10_method_27_code 10 = .ok (.iload_n 1, 1) := by decide +kernel
theorem d_Mo_readDigit_11 : decode prog_10_method_27_code 11 = .ok (.invokevirtual 156, 3) := by decide +kernel
theorem d_Mo_readDigit_14 : decode prog_10_method_27_code 14 = .ok (.goto 49, 3) := by decide +kernel
theorem d_Mo_readDigit_17 : decode prog_10_method_27_code 17 = .ok (.aload_n 0, 1) := by decide +kernel
theorem d_Mo_readDigit_18 : decode prog_10_method_27_code 18 = .ok (.getfield 22, 3) := by decide +kernel
theorem d_Mo_readDigit_21 : decode prog_10_method_27_code 21 = .ok (.iload_n 1, 1) := by decide +kernel
theorem d_Mo_readDigit_22 : decode prog_10_method_27_code 22 = .ok (.iaload, 1) := by decide +kernel
theorem d_Mo_readDigit_23 : decode prog_10_method_27_code 23 = .ok (.ifCond .ge 13, 3) := by decide +kernel
theorem d_Mo_readDigit_26 : decode prog_10_method_27_code 26 = .ok (.aload_n 0, 1) := by decide +kernel
theorem d_Mo_readDigit_27 : decode prog_10_method_27_code 27 = .ok (.getfield 22, 3) := by decide +kernel
theorem d_Mo_readDigit_30 : decode prog_10_method_27_code 30 = .ok (.iload_n 1, 1) := by decide +kernel
theorem d_Mo_readDigit_31 : decode prog_10_method_27_code 31 = .ok (.iload_n 3, 1) := by decide +kernel
theorem d_Mo_readDigit_32 : decode prog_10_method_27_code 32 = .ok (.iastore, 1) := by decide +kernel
theorem d_Mo_readDigit_33 : decode prog_10_method_27_code 33 = .ok (.goto 30, 3) := by decide +kernel
theorem d_Mo_readDigit_36 : decode prog_10_method_27_code 36 = .ok (.bipush 16, 2) := by decide +kernel
theorem d_Mo_readDigit_38 : decode prog_10_method_27_code 38 = .ok (.aload_n 0, 1) := by decide +kernel
theorem d_Mo_readDigit_39 : decode prog_10_method_27_code 39 = .ok (.getfield 22, 3) := by decide +kernel
theorem d_Mo_readDigit_42 : decode prog_10_method_27_code 42 = .ok (.iload_n 1, 1) := by decide +kernel
theorem d_Mo_readDigit_43 : decode prog_10_method_27_code 43 = .ok (.iaload, 1) := by decide +kernel
theorem d_Mo_readDigit_44 : decode prog_10_method_27_code 44 = .ok (.imul, 1) := by decide +kernel
theorem d_Mo_readDigit_45 : decode prog_10_method_27_code 45 = .ok (.iload_n 3, 1) := by decide +kernel
theorem d_Mo_readDigit_46 : decode prog_10_method_27_code 46 = .ok (.iadd, 1) := by decide +kernel
theorem d_Mo_readDigit_47 : decode prog_10_method_27_code 47 = .ok (.istore 4, 2) := by decide +kernel
theorem d_Mo_readDigit_49 : decode prog_10_method_27_code 49 = .ok (.aload_n 0, 1) := by decide +kernel
theorem d_Mo_readDigit_50 : decode prog_10_method_27_code 50 = .ok (.getfield 22, 3) := by decide +kernel
theorem d_Mo_readDigit_53 : decode prog_10_method_27_code 53 = .ok (.iload_n 1, 1) := by decide +kernel
theorem d_Mo_readDigit_54 : decode prog_10_method_27_code 54 = .ok (.iconst (-1), 1) := by decide +kernel
theorem d_Mo_readDigit_55 : decode prog_10_method_27_code 55 = .ok (.iastore, 1) := by decide +kernel
theorem d_Mo_readDigit_56 : decode prog_10_method_27_code 56 = .ok (.aload_n 0, 1) := by decide +kernel
theorem d_Mo_readDigit_57 : decode prog_10_method_27_code 57 = .ok (.iload_n 1, 1) := by decide +kernel
theorem d_Mo_readDigit_58 : decode prog_10_method_27_code 58 = .ok (.iload 4, 2) := by decide +kernel
theorem d_Mo_readDigit_60 : decode prog_10_method_27_code 60 = .ok (.invokevirtual 177, 3) := by decide +kernel
theorem d_Mo_readDigit_63 : decode prog_10_method_27_code 63 = .ok (.return_, 1) := by decide +kernel
def rm_Mo_readDigit : Room := { frames := 8, cells := 0, slots := 0, locals := 182 }
def wp_Mo_readDigit (I : UI) (R : UR) (x1 : Int32) (x2 : Int32) (Q : UI → UR → Prop) : Prop :=
  wp_Mo_digitOf I R x2 (fun r3 I1 R2 => ((0 ≤ r3 → vp_in x1 2 ∧ ((0 ≤ I1 85 x1.toNatClampNeg → vp_in x1 2 ∧ ∀ v4 : Int32, v4 = (16 * (I1 85 x1.toNatClampNeg)) + r3 → vp_in x1 2 ∧ ∀ I5 : UI, I5 = u2 I1 85 x1.toNatClampNeg (-1) → wp_Mo_headerByte I5 R2 x1 v4 (fun I6 R7 => Q I6 R7)) ∧ (¬ 0 ≤ I1 85 x1.toNatClampNeg → vp_in x1 2 ∧ ∀ I8 : UI, I8 = u2 I1 85 x1.toNatClampNeg r3 → Q I8 R2))) ∧ (¬ 0 ≤ r3 → wp_Mo_badHeader I1 R2 x1 (fun I9 R10 => Q I9 R10))))
set_option maxHeartbeats 4000000 in
set_option maxRecDepth 100000 in
theorem c_Mo_readDigit (l : Launch) (D : va_G) (cc : Nat → ClassId) (L : List Nat) (A : Nat → Nat) (J : Nat → Int64) (t16 t32 : Nat) (I : UI) (R : UR) (x1 : Int32) (x2 : Int32) (Q : UI → UR → Prop) (h : wp_Mo_readDigit I R x1 x2 Q) : uMv l y_Mo_readDigit (.code y_Mo_readDigit prog_10_method_27_code 5 none) rm_Mo_readDigit [.ref (A 80), .int x1, .int x2] D cc L A J t16 t32 I R Q := by
  intro sz
  refine u_entry (by decide) (Nat.le_of_ble_eq_true rfl) (fun p e s m args below meth c hsz X V hr hlk ls hl => ?_)
  have X : uX p s m args c prog_10_method_27_code 5 "FrameFerryModel" D cc L A t16 t32 := X
  have hx := X.1
  have hb := X.2.1
  have hl : lv_has ls 5 [(0, .ref (A 80)), (1, .int x1), (2, .int x2)] := hl
  unfold wp_Mo_readDigit at h
  generalize hH : s.heap = H at V ⊢
  generalize hlo : ([] : List Loc) = locs at V ⊢
  refine lv_iload_n (pc := 0) hx hb d_Mo_readDigit_0 rfl (lv_at hl 2 rfl) ?_
  refine u_cSi (pc := 1) (As := [.int x2]) X V s_Mo_173 (c_Mo_digitOf l D cc L A J t16 t32 _ _ x2 _ h) ⟨rfl, rfl, Nat.le_of_ble_eq_true rfl, Nat.le_of_ble_eq_true rfl⟩ rfl hl.1 rfl (Nat.le_of_ble_eq_true rfl) d_Mo_readDigit_1 ⟨Nat.zero_le _, Nat.zero_le _⟩ (fun r3 I1 R2 h H locs V => ?_)
  refine lv_istore_n (pc := 4) (lv' := [(3, .int r3), (0, .ref (A 80)), (1, .int x1), (2, .int x2)]) hx hb d_Mo_readDigit_4 rfl hl (by decide) rfl (fun ls hl => ?_)
  refine lv_iload_n (pc := 5) hx hb d_Mo_readDigit_5 rfl (lv_at hl 0 rfl) ?_
  refine lv_if_ge (pc := 6) (tgt := 17) hx hb d_Mo_readDigit_6 (by decide) (fun hc => ?_) (fun hc => ?_)
  · have h := h.1 hc
    refine lv_aload_n (pc := 17) hx hb d_Mo_readDigit_17 rfl (lv_at hl 1 rfl) ?_
    refine u_getr (pc := 18) (o' := 85) X V (X.fix rfl) rfl rfl f_Mo_22 rfl rfl d_Mo_readDigit_18 ?_
    refine lv_iload_n (pc := 21) hx hb d_Mo_readDigit_21 rfl (lv_at hl 2 rfl) ?_
    refine u_iald (pc := 22) X V (X.fix rfl) rfl rfl h.1 d_Mo_readDigit_22 ?_
    have h := h.2
    refine lv_if_ge (pc := 23) (tgt := 36) hx hb d_Mo_readDigit_23 (by decide) (fun hc => ?_) (fun hc => ?_)
    · have h := h.1 hc
      refine lv_bipush (pc := 36) (v := 16) hx hb d_Mo_readDigit_36 (by decide) ?_
      refine lv_aload_n (pc := 38) hx hb d_Mo_readDigit_38 rfl (lv_at hl 1 rfl) ?_
      refine u_getr (pc := 39) (o' := 85) X V (X.fix rfl) rfl rfl f_Mo_22 rfl rfl d_Mo_readDigit_39 ?_
      refine lv_iload_n (pc := 42) hx hb d_Mo_readDigit_42 rfl (lv_at hl 2 rfl) ?_
      refine u_iald (pc := 43) X V (X.fix rfl) rfl rfl h.1 d_Mo_readDigit_43 ?_
      have h := h.2
      refine lv_imul (pc := 44) hx hb d_Mo_readDigit_44 ?_
      refine lv_iload_n (pc := 45) hx hb d_Mo_readDigit_45 rfl (lv_at hl 0 rfl) ?_
      refine lv_iadd (pc := 46) hx hb d_Mo_readDigit_46 ?_
      refine lv_topi (fun v4 ev4 => ?_)
      have h := h v4 ev4
      refine lv_istore (pc := 47) (lv' := [(4, .int v4), (3, .int r3), (0, .ref (A 80)), (1, .int x1), (2, .int x2)]) hx hb d_Mo_readDigit_47 hl (by decide) rfl (fun ls hl => ?_)
      refine lv_aload_n (pc := 49) hx hb d_Mo_readDigit_49 rfl (lv_at hl 2 rfl) ?_
      refine u_getr (pc := 50) (o' := 85) X V (X.fix rfl) rfl rfl f_Mo_22 rfl rfl d_Mo_readDigit_50 ?_
      refine lv_iload_n (pc := 53) hx hb d_Mo_readDigit_53 rfl (lv_at hl 3 rfl) ?_
      refine lv_iconst (pc := 54) (v := (-1)) hx hb d_Mo_readDigit_54 (by decide) ?_
      refine u_iast (pc := 55) X V (X.fix rfl) rfl rfl h.1 d_Mo_readDigit_55 (fun I5 eI5 H locs V => ?_)
      have h := h.2 I5 eI5
      refine lv_aload_n (pc := 56) hx hb d_Mo_readDigit_56 rfl (lv_at hl 2 rfl) ?_
      refine lv_iload_n (pc := 57) hx hb d_Mo_readDigit_57 rfl (lv_at hl 3 rfl) ?_
      refine lv_iload (pc := 58) hx hb d_Mo_readDigit_58 (lv_at hl 0 rfl) ?_
      refine u_cVv (pc := 60) (As := [.int x1, .int v4]) X V s_Mo_177 (X.fix rfl) rfl rfl rfl (c_Mo_headerByte l D cc L A J t16 t32 _ _ x1 v4 _ h) ⟨rfl, rfl, Nat.le_of_ble_eq_true rfl, Nat.le_of_ble_eq_true rfl⟩ rfl hl.1 rfl (Nat.le_of_ble_eq_true rfl) d_Mo_readDigit_60 ⟨Nat.zero_le _, Nat.zero_le _⟩ (fun I6 R7 h H locs V => ?_)
      exact u_retv (pc := 63) X V hr hlk hsz h d_Mo_readDigit_63
    · have h := h.2 hc
      refine lv_aload_n (pc := 26) hx hb d_Mo_readDigit_26 rfl (lv_at hl 1 rfl) ?_
      refine u_getr (pc := 27) (o' := 85) X V (X.fix rfl) rfl rfl f_Mo_22 rfl rfl d_Mo_readDigit_27 ?_
      refine lv_iload_n (pc := 30) hx hb d_Mo_readDigit_30 rfl (lv_at hl 2 rfl) ?_
      refine lv_iload_n (pc := 31) hx hb d_Mo_readDigit_31 rfl (lv_at hl 0 rfl) ?_
      refine u_iast (pc := 32) X V (X.fix rfl) rfl rfl h.1 d_Mo_readDigit_32 (fun I8 eI8 H locs V => ?_)
      have h := h.2 I8 eI8
      refine lv_goto (pc := 33) (tgt := 63) hx hb d_Mo_readDigit_33 (by decide) ?_
      exact u_retv (pc := 63) X V hr hlk hsz h d_Mo_readDigit_63
  · have h := h.2 hc
    refine lv_aload_n (pc := 9) hx hb d_Mo_readDigit_9 rfl (lv_at hl 1 rfl) ?_
    refine lv_iload_n (pc := 10) hx hb d_Mo_readDigit_10 rfl (lv_at hl 2 rfl) ?_
    refine u_cVv (pc := 11) (As := [.int x1]) X V s_Mo_156 (X.fix rfl) rfl rfl rfl (c_Mo_badHeader l D cc L A J t16 t32 _ _ x1 _ h) ⟨rfl, rfl, Nat.le_of_ble_eq_true rfl, Nat.le_of_ble_eq_true rfl⟩ rfl hl.1 rfl (Nat.le_of_ble_eq_true rfl) d_Mo_readDigit_11 ⟨Nat.zero_le _, Nat.zero_le _⟩ (fun I9 R10 h H locs V => ?_)
    refine lv_goto (pc := 14) (tgt := 63) hx hb d_Mo_readDigit_14 (by decide) ?_
    exact u_retv (pc := 63) X V hr hlk hsz h d_Mo_readDigit_63
-- FrameFerryModel.readEscaped (II)V
theorem d_Mo_readEscaped_0 : decode prog_10_method_28_code 0 = .ok (.aload_n 0, 1) := by decide +kernel
theorem d_Mo_readEscaped_1 : decode prog_10_method_28_code 1 = .ok (.getfield 25, 3) := by decide +kernel
theorem d_Mo_readEscaped_4 : decode prog_10_method_28_code 4 = .ok (.iload_n 1, 1) := by decide +kernel
theorem d_Mo_readEscaped_5 : decode prog_10_method_28_code 5 = .ok (.baload, 1) := by decide +kernel
theorem d_Mo_readEscaped_6 : decode prog_10_method_28_code 6 = .ok (.ifCond .ne 26, 3) := by decide +kernel
theorem d_Mo_readEscaped_9 : decode prog_10_method_28_code 9 = .ok (.iload_n 2, 1) := by decide +kernel
theorem d_Mo_readEscaped_10 : decode prog_10_method_28_code 10 = .ok (.bipush 24, 2) := by decide +kernel
theorem d_Mo_readEscaped_12 : decode prog_10_method_28_code 12 = .ok (.if_icmp .ne 13, 3) := by decide +kernel
theorem d_Mo_readEscaped_15 : decode prog_10_method_28_code 15 = .ok (.aload_n 0, 1) := by decide +kernel
theorem d_Mo_readEscaped_16 : decode prog_10_method_28_code 16 = .ok (.getfield 25, 3) := by decide +kernel
theorem d_Mo_readEscaped_19 : decode prog_10_method_28_code 19 = .ok (.iload_n 1, 1) := by decide +kernel
theorem d_Mo_readEscaped_20 : decode prog_10_method_28_code 20 = .ok (.iconst 1, 1) := by decide +kernel
theorem d_Mo_readEscaped_21 : decode prog_10_method_28_code 21 = .ok (.bastore, 1) := by decide +kernel
theorem d_Mo_readEscaped_22 : decode prog_10_method_28_code 22 = .ok (.goto 9, 3) := by decide +kernel
theorem d_Mo_readEscaped_25 : decode prog_10_method_28_code 25 = .ok (.aload_n 0, 1) := by decide +kernel
theorem d_Mo_readEscaped_26 : decode prog_10_method_28_code 26 = .ok (.iload_n 1, 1) := by decide +kernel
theorem d_Mo_readEscaped_27 : decode prog_10_method_28_code 27 = .ok (.iload_n 2, 1) := by decide +kernel
theorem d_Mo_readEscaped_28 : decode prog_10_method_28_code 28 = .ok (.invokevirtual 180, 3) := by decide +kernel
theorem d_Mo_readEscaped_31 : decode prog_10_method_28_code 31 = .ok (.return_, 1) := by decide +kernel
theorem d_Mo_readEscaped_32 : decode prog_10_method_28_code 32 = .ok (.aload_n 0, 1) := by decide +kernel
theorem d_Mo_readEscaped_33 : decode prog_10_method_28_code 33 = .ok (.getfield 25, 3) := by decide +kernel
theorem d_Mo_readEscaped_36 : decode prog_10_method_28_code 36 = .ok (.iload_n 1, 1) := by decide +kernel
theorem d_Mo_readEscaped_37 : decode prog_10_method_28_code 37 = .ok (.iconst 0, 1) := by decide +kernel
theorem d_Mo_readEscaped_38 : decode prog_10_method_28_code 38 = .ok (.bastore, 1) := by decide +kernel
theorem d_Mo_readEscaped_39 : decode prog_10_method_28_code 39 = .ok (.iload_n 2, 1) := by decide +kernel
theorem d_Mo_readEscaped_40 : decode prog_10_method_28_code 40 = .ok (.bipush 96, 2) := by decide +kernel
theorem d_Mo_readEscaped_42 : decode prog_10_method_28_code 42 = .ok (.iand, 1) := by decide +kernel
theorem d_Mo_readEscaped_43 : decode prog_10_method_28_code 43 = .ok (.bipush 64, 2) := by decide +kernel
theorem d_Mo_readEscaped_45 : decode prog_10_method_28_code 45 = .ok (.if_icmp .ne 15, 3) := by decide +kernel
theorem d_Mo_readEscaped_48 : decode prog_10_method_28_code 48 = .ok (.aload_n 0, 1) := by decide +kernel
theorem d_Mo_readEscaped_49 : decode prog_10_method_28_code 49 = .ok (.iload_n 1, 1) := by decide +kernel
theorem d_Mo_readEscaped_50 : decode prog_10_method_28_code 50 = .ok (.iload_n 2, 1) := by decide +kernel
theorem d_Mo_readEscaped_51 : decode prog_10_method_28_code 51 = .ok (.bipush 64, 2) := by decide +kernel
theorem d_Mo_readEscaped_53 : decode prog_10_method_28_code 53 = .ok (.ixor, 1) := by decide +kernel
theorem d_Mo_readEscaped_54 : decode prog_10_method_28_code 54 = .ok (.invokevirtual 180, 3) := by decide +kernel
theorem d_Mo_readEscaped_57 : decode prog_10_method_28_code 57 = .ok (.goto 134, 3) := by decide +kernel
theorem d_Mo_readEscaped_60 : decode prog_10_method_28_code 60 = .ok (.iload_n 2, 1) := by decide +kernel
theorem d_Mo_readEscaped_61 : decode prog_10_method_28_code 61 = .ok (.bipush 108, 2) := by decide +kernel
theorem d_Mo_readEscaped_63 : decode prog_10_method_28_code 63 = .ok (.if_icmp .eq 9, 3) := by decide +kernel
theorem d_Mo_readEscaped_66 : decode prog_10_method_28_code 66 = .ok (.iload_n 2, 1) := by decide +kernel
theorem d_Mo_readEscaped_67 : decode prog_10_method_28_code 67 = .ok (.bipush 109, 2) := by decide +kernel
theorem d_Mo_readEscaped_69 : decode prog_10_method_28_code 69 = .ok (.if_icmp .ne 25, 3) := by decide +kernel
theorem d_Mo_readEscaped_72 : decode prog_10_method_28_code 72 = .ok (.aload_n 0, 1) := by decide +kernel
theorem d_Mo_readEscaped_73 : decode prog_10_method_28_code 73 = .ok (.iload_n 1, 1) := by decide +kernel
theorem d_Mo_readEscaped_74 : decode prog_10_method_28_code 74 = .ok (.iload_n 2, 1) := by decide +kernel
theorem d_Mo_readEscaped_75 : decode prog_10_method_28_code 75 = .ok (.bipush 108, 2) := by decide +kernel
theorem d_Mo_readEscaped_77 : decode prog_10_method_28_code 77 = .ok (.if_icmp .ne 8, 3) := by decide +kernel
theorem d_Mo_readEscaped_80 : decode prog_10_method_28_code 80 = .ok (.bipush 127, 2) := by decide +kernel
theorem d_Mo_readEscaped_82 : decode prog_10_method_28_code 82 = .ok (.goto 6, 3) := by decide +kernel
theorem d_Mo_readEscaped_85 : decode prog_10_method_28_code 85 = .ok (.sipush 255, 3) := by decide +kernel
theorem d_Mo_readEscaped_88 : decode prog_10_method_28_code 88 = .ok (.invokevirtual 180, 3) := by decide +kernel
theorem d_Mo_readEscaped_91 : decode prog_10_method_28_code 91 = .ok (.goto 100, 3) := by decide +kernel
theorem d_Mo_readEscaped_94 : decode prog_10_method_28_code 94 = .ok (.aload_n 0, 1) := by decide +kernel
theorem d_Mo_readEscaped_95 : decode prog_10_method_28_code 95 = .ok (.getfield 16, 3) := by decide +kernel
theorem d_Mo_readEscaped_98 : decode prog_10_method_28_code 98 = .ok (.iload_n 1, 1) := by decide +kernel
theorem d_Mo_readEscaped_99 : decode prog_10_method_28_code 99 = .ok (.iaload, 1) := by decide +kernel
theorem d_Mo_readEscaped_100 : decode prog_10_method_28_code 100 = .ok (.iconst 5, 1) := by decide +kernel
theorem d_Mo_readEscaped_101 : decode prog_10_method_28_code 101 = .ok (.if_icmp .ne 68, 3) := by decide +kernel
theorem d_Mo_readEscaped_104 : decode prog_10_method_28_code 104 = .ok (.iload_n 2, 1) := by decide +kernel
theorem d_Mo_readEscaped_105 : decode prog_10_method_28_code 105 = .ok (.bipush 104, 2) := by decide +kernel
theorem d_Mo_readEscaped_107 : decode prog_10_method_28_code 107 = .ok (.bipush 107, 2) := by decide +kernel
theorem d_Mo_readEscaped_109 : decode prog_10_method_28_code 109 = .ok (.invokestatic 85, 3) := by decide +kernel
theorem d_Mo_readEscaped_112 : decode prog_10_method_28_code 112 = .ok (.ifCond .eq 57, 3) := by decide +kernel
theorem d_Mo_readEscaped_115 : decode prog_10_method_28_code 115 = .ok (.aload_n 0, 1) := by decide +kernel
theorem d_Mo_readEscaped_116 : decode prog_10_method_28_code 116 = .ok (.getfield 38, 3) := by decide +kernel
theorem d_Mo_readEscaped_119 : decode prog_10_method_28_code 119 = .ok (.iload_n 1, 1) := by decide +kernel
theorem d_Mo_readEscaped_120 : decode prog_10_method_28_code 120 = .ok (.iload_n 2, 1) := by decide +kernel
theorem d_Mo_readEscaped_121 : decode prog_10_method_28_code 121 = .ok (.iastore, 1) := by decide +kernel
theorem d_Mo_readEscaped_122 : decode prog_10_method_28_code 122 = .ok (.aload_n 0, 1) := by decide +kernel
theorem d_Mo_readEscaped_123 : decode prog_10_method_28_code 123 = .ok (.getfield 35, 3) := by decide +kernel
theorem d_Mo_readEscaped_126 : decode prog_10_method_28_code 126 = .ok (.iload_n 1, 1) := by decide +kernel
theorem d_Mo_readEscaped_127 : decode prog_10_method_28_code 127 = .ok (.aload_n 0, 1) := by decide +kernel
theorem d_Mo_readEscaped_128 : decode prog_10_method_28_code 128 = .ok (.getfield 19, 3) := by decide +kernel
theorem d_Mo_readEscaped_131 : decode prog_10_method_28_code 131 = .ok (.iload_n 1, 1) := by decide +kernel
theorem d_Mo_readEscaped_132 : decode prog_10_method_28_code 132 = .ok (.iaload, 1) := by decide +kernel
theorem d_Mo_readEscaped_133 : decode prog_10_method_28_code 133 = .ok (.iastore, 1) := by decide +kernel
theorem d_Mo_readEscaped_134 : decode prog_10_method_28_code 134 = .ok (.aload_n 0, 1) := by decide +kernel
theorem d_Mo_readEscaped_135 : decode prog_10_method_28_code 135 = .ok (.getfield 32, 3) := by decide +kernel
theorem d_Mo_readEscaped_138 : decode prog_10_method_28_code 138 = .ok (.bipush 80, 2) := by decide +kernel
theorem d_Mo_readEscaped_140 : decode prog_10_method_28_code 140 = .ok (.iload_n 1, 1) := by decide +kernel
theorem d_Mo_readEscaped_141 : decode prog_10_method_28_code 141 = .ok (.imul, 1) := by decide +kernel
theorem d_Mo_readEscaped_142 : decode prog_10_method_28_code 142 = .ok (.aload_n 0, 1) := by decide +kernel
theorem d_Mo_readEscaped_143 : decode prog_10_method_28_code 143 = .ok (.getfield 19, 3) := by decide +kernel
theorem d_Mo_readEscaped_146 : decode prog_10_method_28_code 146 = .ok (.iload_n 1, 1) := by decide +kernel
theorem d_Mo_readEscaped_147 : decode prog_10_method_28_code 147 = .ok (.iaload, 1) := by decide +kernel
theorem d_Mo_readEscaped_148 : decode prog_10_method_28_code 148 = .ok (.iadd, 1) := by decide +kernel
theorem d_Mo_readEscaped_149 : decode prog_10_method_28_code 149 = .ok (.iload_n 2, 1) := by decide +kernel
theorem d_Mo_readEscaped_150 : decode prog_10_method_28_code 150 = .ok (.iastore, 1) := by decide +kernel
theorem d_Mo_readEscaped_151 : decode prog_10_method_28_code 151 = .ok (.aload_n 0, 1) := by decide +kernel
theorem d_Mo_readEscaped_152 : decode prog_10_method_28_code 152 = .ok (.getfield 16, 3) := by decide +kernel
theorem d_Mo_readEscaped_155 : decode prog_10_method_28_code 155 = .ok (.iload_n 1, 1) := by decide +kernel
theorem d_Mo_readEscaped_156 : decode prog_10_method_28_code 156 = .ok (.bipush 6, 2) := by decide +kernel
theorem d_Mo_readEscaped_158 : decode prog_10_method_28_code 158 = .ok (.iastore, 1) := by decide +kernel
theorem d_Mo_readEscaped_159 : decode prog_10_method_28_code 159 = .ok (.aload_n 0, 1) := by decide +kernel
theorem d_Mo_readEscaped_160 : decode prog_10_method_28_code 160 = .ok (.getfield 19, 3) := by decide +kernel
theorem d_Mo_readEscaped_163 : decode prog_10_method_28_code 163 = .ok (.iload_n 1, 1) := by decide +kernel
theorem d_Mo_readEscaped_164 : decode prog_10_method_28_code 164 = .ok (.iconst 0, 1) := by decide +kernel
theorem d_Mo_readEscaped_165 : decode prog_10_method_28_code 165 = .ok (.iastore, 1) := by decide +kernel
theorem d_Mo_readEscaped_166 : decode prog_10_method_28_code 166 = .ok (.goto 25, 3) := by decide +kernel
theorem d_Mo_readEscaped_169 : decode prog_10_method_28_code 169 = .ok (.aload_n 0, 1) := by decide +kernel
theorem d_Mo_readEscaped_170 : decode prog_10_method_28_code 170 = .ok (.getfield 16, 3) := by decide +kernel
theorem d_Mo_readEscaped_173 : decode prog_10_method_28_code 173 = .ok (.iload_n 1, 1) := by decide +kernel
theorem d_Mo_readEscaped_174 : decode prog_10_method_28_code 174 = .ok (.iaload, 1) := by decide +kernel
theorem d_Mo_readEscaped_175 : decode prog_10_method_28_code 175 = .ok (.iconst 4, 1) := by decide +kernel
theorem d_Mo_readEscaped_176 : decode prog_10_method_28_code 176 = .ok (.if_icmp .ne 11, 3) := by decide +kernel
theorem d_Mo_readEscaped_179 : decode prog_10_method_28_code 179 = .ok (.aload_n 0, 1) := by decide +kernel
theorem d_Mo_readEscaped_180 : decode prog_10_method_28_code 180 = .ok (.iload_n 1, 1) := by decide +kernel
theorem d_Mo_readEscaped_181 : decode prog_10_method_28_code 181 = .ok (.invokevirtual 156, 3) := by decide +kernel
theorem d_Mo_readEscaped_184 : decode prog_10_method_28_code 184 = .ok (.goto 7, 3) := by decide +kernel
theorem d_Mo_readEscaped_187 : decode prog_10_method_28_code 187 = .ok (.aload_n 0, 1) := by decide +kernel
theorem d_Mo_readEscaped_188 : decode prog_10_method_28_code 188 = .ok (.invokevirtual 183, 3) := by decide +kernel
theorem d_Mo_readEscaped_191 : decode prog_10_method_28_code 191 = .ok (.return_, 1) := by decide +kernel
def rm_Mo_readEscaped : Room := { frames := 9, cells := 0, slots := 0, locals := 204 }
def wp_Mo_readEscaped_L88 (Q : UI → UR → Prop) (I : UI) (R : UR) (s0 : Int32) (s1 : Int32) : Prop :=
  wp_Mo_plain I R s1 s0 (fun I2 R3 => Q I2 R3)
set_option maxHeartbeats 4000000 in
set_option maxRecDepth 100000 in
theorem j_Mo_readEscaped_88 (X : uX p s m args c prog_10_method_28_code 3 "FrameFerryModel" D cc L A t16 t32) (hr : meth.sig.returnType = none) (hlk : meth.locks = false) (hsz : sz = s.heap.size) {Q : UI → UR → Prop} {I : UI} {R : UR} {s0 : Int32} {s1 : Int32} {H : Heap} {locs : List Loc} {ls : Array Slot} (V : uV s D cc L A J I R H locs) (hl : lv_has ls 3 []) (h : wp_Mo_readEscaped_L88 Q I R s0 s1) : W p l e rm_Mo_readEscaped s m args below meth c H locs 0 0 (MQ below (va_Qv (fun u : UI × UR => Q u.1 u.2) (uBv D cc L A J) (uA L A sz)) args s 0 0 (uA L A sz)) (F0 m 88 ls [.int s0, .int s1, .ref (A 80)]) := by
  have hx := X.1
  have hb := X.2.1
  unfold wp_Mo_readEscaped_L88 at h
  refine u_cVv (pc := 88) (As := [.int s1, .int s0]) X V s_Mo_180 (X.fix rfl) rfl rfl rfl (c_Mo_plain l D cc L A J t16 t32 _ _ s1 s0 _ h) ⟨rfl, rfl, Nat.le_of_ble_eq_true rfl, Nat.le_of_ble_eq_true rfl⟩ rfl hl.1 rfl (Nat.le_of_ble_eq_true rfl) d_Mo_readEscaped_88 ⟨Nat.zero_le _, Nat.zero_le _⟩ (fun I2 R3 h H locs V => ?_)
  refine lv_goto (pc := 91) (tgt := 191) hx hb d_Mo_readEscaped_91 (by decide) ?_
  exact u_retv (pc := 191) X V hr hlk hsz h d_Mo_readEscaped_191
def wp_Mo_readEscaped_L72 (Q : UI → UR → Prop) (I : UI) (R : UR) (x1 : Int32) (x2 : Int32) : Prop :=
  ((¬ x2 = 108 → wp_Mo_readEscaped_L88 Q I R 255 x1) ∧ (x2 = 108 → wp_Mo_readEscaped_L88 Q I R 127 x1))
set_option maxHeartbeats 4000000 in
set_option maxRecDepth 100000 in
theorem j_Mo_readEscaped_72 (X : uX p s m args c prog_10_method_28_code 3 "FrameFerryModel" D cc L A t16 t32) (hr : meth.sig.returnType = none) (hlk : meth.locks = false) (hsz : sz = s.heap.size) {Q : UI → UR → Prop} {I : UI} {R : UR} {x1 : Int32} {x2 : Int32} {H : Heap} {locs : List Loc} {ls : Array Slot} (V : uV s D cc L A J I R H locs) (hl : lv_has ls 3 [(0, .ref (A 80)), (1, .int x1), (2, .int x2)]) (h : wp_Mo_readEscaped_L72 Q I R x1 x2) : W p l e rm_Mo_readEscaped s m args below meth c H locs 0 0 (MQ below (va_Qv (fun u : UI × UR => Q u.1 u.2) (uBv D cc L A J) (uA L A sz)) args s 0 0 (uA L A sz)) (F0 m 72 ls []) := by
  have hx := X.1
  have hb := X.2.1
  unfold wp_Mo_readEscaped_L72 at h
  refine lv_aload_n (pc := 72) hx hb d_Mo_readEscaped_72 rfl (lv_at hl 0 rfl) ?_
  refine lv_iload_n (pc := 73) hx hb d_Mo_readEscaped_73 rfl (lv_at hl 1 rfl) ?_
  refine lv_iload_n (pc := 74) hx hb d_Mo_readEscaped_74 rfl (lv_at hl 2 rfl) ?_
  refine lv_bipush (pc := 75) (v := 108) hx hb d_Mo_readEscaped_75 (by decide) ?_
  refine lv_icmp_ne (pc := 77) (tgt := 85) hx hb d_Mo_readEscaped_77 (by decide) (fun hc => ?_) (fun hc => ?_)
  · have h := h.1 hc
    refine lv_sipush (pc := 85) (v := 255) hx hb d_Mo_readEscaped_85 (by decide) ?_
    exact j_Mo_readEscaped_88 X hr hlk hsz V (lv_sub hl [] rfl) h
  · have h := h.2 hc
    refine lv_bipush (pc := 80) (v := 127) hx hb d_Mo_readEscaped_80 (by decide) ?_
    refine lv_goto (pc := 82) (tgt := 88) hx hb d_Mo_readEscaped_82 (by decide) ?_
    exact j_Mo_readEscaped_88 X hr hlk hsz V (lv_sub hl [] rfl) h
def wp_Mo_readEscaped_L169 (Q : UI → UR → Prop) (I : UI) (R : UR) (x1 : Int32) : Prop :=
  vp_in x1 2 ∧ ((¬ I 83 x1.toNatClampNeg = 4 → wp_Mo_badPacket I R (fun I4 R5 => Q I4 R5)) ∧ (I 83 x1.toNatClampNeg = 4 → wp_Mo_badHeader I R x1 (fun I6 R7 => Q I6 R7)))
set_option maxHeartbeats 4000000 in
set_option maxRecDepth 100000 in
theorem j_Mo_readEscaped_169 (X : uX p s m args c prog_10_method_28_code 3 "FrameFerryModel" D cc L A t16 t32) (hr : meth.sig.returnType = none) (hlk : meth.locks = false) (hsz : sz = s.heap.size) {Q : UI → UR → Prop} {I : UI} {R : UR} {x1 : Int32} {H : Heap} {locs : List Loc} {ls : Array Slot} (V : uV s D cc L A J I R H locs) (hl : lv_has ls 3 [(0, .ref (A 80)), (1, .int x1)]) (h : wp_Mo_readEscaped_L169 Q I R x1) : W p l e rm_Mo_readEscaped s m args below meth c H locs 0 0 (MQ below (va_Qv (fun u : UI × UR => Q u.1 u.2) (uBv D cc L A J) (uA L A sz)) args s 0 0 (uA L A sz)) (F0 m 169 ls []) := by
  have hx := X.1
  have hb := X.2.1
  unfold wp_Mo_readEscaped_L169 at h
  refine lv_aload_n (pc := 169) hx hb d_Mo_readEscaped_169 rfl (lv_at hl 0 rfl) ?_
  refine u_getr (pc := 170) (o' := 83) X V (X.fix rfl) rfl rfl f_Mo_16 rfl rfl d_Mo_readEscaped_170 ?_
  refine lv_iload_n (pc := 173) hx hb d_Mo_readEscaped_173 rfl (lv_at hl 1 rfl) ?_
  refine u_iald (pc := 174) X V (X.fix rfl) rfl rfl h.1 d_Mo_readEscaped_174 ?_
  have h := h.2
  refine lv_iconst (pc := 175) (v := 4) hx hb d_Mo_readEscaped_175 (by decide) ?_
  refine lv_icmp_ne (pc := 176) (tgt := 187) hx hb d_Mo_readEscaped_176 (by decide) (fun hc => ?_) (fun hc => ?_)
  · have h := h.1 hc
    refine lv_aload_n (pc := 187) hx hb d_Mo_readEscaped_187 rfl (lv_at hl 0 rfl) ?_
    refine u_cVv (pc := 188) (As := []) X V s_Mo_183 (X.fix rfl) rfl rfl rfl (c_Mo_badPacket l D cc L A J t16 t32 _ _  _ h) ⟨rfl, rfl, Nat.le_of_ble_eq_true rfl, Nat.le_of_ble_eq_true rfl⟩ rfl hl.1 rfl (Nat.le_of_ble_eq_true rfl) d_Mo_readEscaped_188 ⟨Nat.zero_le _, Nat.zero_le _⟩ (fun I4 R5 h H locs V => ?_)
    exact u_retv (pc := 191) X V hr hlk hsz h d_Mo_readEscaped_191
  · have h := h.2 hc
    refine lv_aload_n (pc := 179) hx hb d_Mo_readEscaped_179 rfl (lv_at hl 0 rfl) ?_
    refine lv_iload_n (pc := 180) hx hb d_Mo_readEscaped_180 rfl (lv_at hl 1 rfl) ?_
    refine u_cVv (pc := 181) (As := [.int x1]) X V s_Mo_156 (X.fix rfl) rfl rfl rfl (c_Mo_badHeader l D cc L A J t16 t32 _ _ x1 _ h) ⟨rfl, rfl, Nat.le_of_ble_eq_true rfl, Nat.le_of_ble_eq_true rfl⟩ rfl hl.1 rfl (Nat.le_of_ble_eq_true rfl) d_Mo_readEscaped_181 ⟨Nat.zero_le _, Nat.zero_le _⟩ (fun I6 R7 h H locs V => ?_)
    refine lv_goto (pc := 184) (tgt := 191) hx hb d_Mo_readEscaped_184 (by decide) ?_
    exact u_retv (pc := 191) X V hr hlk hsz h d_Mo_readEscaped_191
def wp_Mo_readEscaped (I : UI) (R : UR) (x1 : Int32) (x2 : Int32) (Q : UI → UR → Prop) : Prop :=
  vp_in x1 2 ∧ ((¬ I 86 x1.toNatClampNeg = 0 → vp_in x1 2 ∧ zb 0 ∧ ∀ I1 : UI, I1 = u2 I 86 x1.toNatClampNeg 0 → ((¬ x2 &&& 96 = 64 → ((x2 = 108 → wp_Mo_readEscaped_L72 Q I1 R x1 x2) ∧ (¬ x2 = 108 → ((¬ x2 = 109 → vp_in x1 2 ∧ ((¬ I1 83 x1.toNatClampNeg = 5 → wp_Mo_readEscaped_L169 Q I1 R x1) ∧ (I1 83 x1.toNatClampNeg = 5 → wp_Mo_isIn I1 R x2 104 107 (fun r10 I8 R9 => ((r10 = 0 → wp_Mo_readEscaped_L169 Q I8 R9 x1) ∧ (¬ r10 = 0 → vp_in x1 2 ∧ ∀ I11 : UI, I11 = u2 I8 90 x1.toNatClampNeg x2 → vp_in x1 2 ∧ vp_in x1 2 ∧ ∀ I12 : UI, I12 = u2 I11 89 x1.toNatClampNeg (I11 84 x1.toNatClampNeg) → vp_in x1 2 ∧ vp_in ((80 * x1) + (I12 84 x1.toNatClampNeg)) 160 ∧ ∀ I13 : UI, I13 = u2 I12 88 (((80 * x1) + (I12 84 x1.toNatClampNeg)).toNatClampNeg) x2 → vp_in x1 2 ∧ ∀ I14 : UI, I14 = u2 I13 83 x1.toNatClampNeg 6 → vp_in x1 2 ∧ ∀ I15 : UI, I15 = u2 I14 84 x1.toNatClampNeg 0 → Q I15 R9)))))) ∧ (x2 = 109 → wp_Mo_readEscaped_L72 Q I1 R x1 x2))))) ∧ (x2 &&& 96 = 64 → wp_Mo_plain I1 R x1 (x2 ^^^ 64) (fun I16 R17 => Q I16 R17)))) ∧ (I 86 x1.toNatClampNeg = 0 → ((¬ x2 = 24 → wp_Mo_plain I R x1 x2 (fun I18 R19 => Q I18 R19)) ∧ (x2 = 24 → vp_in x1 2 ∧ zb 1 ∧ ∀ I20 : UI, I20 = u2 I 86 x1.toNatClampNeg 1 → Q I20 R))))
set_option maxHeartbeats 4000000 in
set_option maxRecDepth 100000 in
theorem c_Mo_readEscaped (l : Launch) (D : va_G) (cc : Nat → ClassId) (L : List Nat) (A : Nat → Nat) (J : Nat → Int64) (t16 t32 : Nat) (I : UI) (R : UR) (x1 : Int32) (x2 : Int32) (Q : UI → UR → Prop) (h : wp_Mo_readEscaped I R x1 x2 Q) : uMv l y_Mo_readEscaped (.code y_Mo_readEscaped prog_10_method_28_code 3 none) rm_Mo_readEscaped [.ref (A 80), .int x1, .int x2] D cc L A J t16 t32 I R Q := by
  intro sz
  refine u_entry (by decide) (Nat.le_of_ble_eq_true rfl) (fun p e s m args below meth c hsz X V hr hlk ls hl => ?_)
  have X : uX p s m args c prog_10_method_28_code 3 "FrameFerryModel" D cc L A t16 t32 := X
  have hx := X.1
  have hb := X.2.1
  have hl : lv_has ls 3 [(0, .ref (A 80)), (1, .int x1), (2, .int x2)] := hl
  unfold wp_Mo_readEscaped at h
  generalize hH : s.heap = H at V ⊢
  generalize hlo : ([] : List Loc) = locs at V ⊢
  refine lv_aload_n (pc := 0) hx hb d_Mo_readEscaped_0 rfl (lv_at hl 0 rfl) ?_
  refine u_getr (pc := 1) (o' := 86) X V (X.fix rfl) rfl rfl f_Mo_25 rfl rfl d_Mo_readEscaped_1 ?_
  refine lv_iload_n (pc := 4) hx hb d_Mo_readEscaped_4 rfl (lv_at hl 1 rfl) ?_
  refine u_zald (pc := 5) X V (X.fix rfl) rfl rfl h.1 d_Mo_readEscaped_5 ?_
  have h := h.2
  refine lv_if_ne (pc := 6) (tgt := 32) hx hb d_Mo_readEscaped_6 (by decide) (fun hc => ?_) (fun hc => ?_)
  · have h := h.1 hc
    refine lv_aload_n (pc := 32) hx hb d_Mo_readEscaped_32 rfl (lv_at hl 0 rfl) ?_
    refine u_getr (pc := 33) (o' := 86) X V (X.fix rfl) rfl rfl f_Mo_25 rfl rfl d_Mo_readEscaped_33 ?_
    refine lv_iload_n (pc := 36) hx hb d_Mo_readEscaped_36 rfl (lv_at hl 1 rfl) ?_
    refine lv_iconst (pc := 37) (v := 0) hx hb d_Mo_readEscaped_37 (by decide) ?_
    refine u_zast (pc := 38) X V (X.fix rfl) rfl rfl h.1 h.2.1 d_Mo_readEscaped_38 (fun I1 eI1 H locs V => ?_)
    have h := h.2.2 I1 eI1
    refine lv_iload_n (pc := 39) hx hb d_Mo_readEscaped_39 rfl (lv_at hl 2 rfl) ?_
    refine lv_bipush (pc := 40) (v := 96) hx hb d_Mo_readEscaped_40 (by decide) ?_
    refine lv_iand (pc := 42) hx hb d_Mo_readEscaped_42 ?_
    refine lv_bipush (pc := 43) (v := 64) hx hb d_Mo_readEscaped_43 (by decide) ?_
    refine lv_icmp_ne (pc := 45) (tgt := 60) hx hb d_Mo_readEscaped_45 (by decide) (fun hc => ?_) (fun hc => ?_)
    · have h := h.1 hc
      refine lv_iload_n (pc := 60) hx hb d_Mo_readEscaped_60 rfl (lv_at hl 2 rfl) ?_
      refine lv_bipush (pc := 61) (v := 108) hx hb d_Mo_readEscaped_61 (by decide) ?_
      refine lv_icmp_eq (pc := 63) (tgt := 72) hx hb d_Mo_readEscaped_63 (by decide) (fun hc => ?_) (fun hc => ?_)
      · have h := h.1 hc
        exact j_Mo_readEscaped_72 X hr hlk hsz V (lv_sub hl [0, 1, 2] rfl) h
      · have h := h.2 hc
        refine lv_iload_n (pc := 66) hx hb d_Mo_readEscaped_66 rfl (lv_at hl 2 rfl) ?_
        refine lv_bipush (pc := 67) (v := 109) hx hb d_Mo_readEscaped_67 (by decide) ?_
        refine lv_icmp_ne (pc := 69) (tgt := 94) hx hb d_Mo_readEscaped_69 (by decide) (fun hc => ?_) (fun hc => ?_)
        · have h := h.1 hc
          refine lv_aload_n (pc := 94) hx hb d_Mo_readEscaped_94 rfl (lv_at hl 0 rfl) ?_
          refine u_getr (pc := 95) (o' := 83) X V (X.fix rfl) rfl rfl f_Mo_16 rfl rfl d_Mo_readEscaped_95 ?_
          refine lv_iload_n (pc := 98) hx hb d_Mo_readEscaped_98 rfl (lv_at hl 1 rfl) ?_
          refine u_iald (pc := 99) X V (X.fix rfl) rfl rfl h.1 d_Mo_readEscaped_99 ?_
          have h := h.2
          refine lv_iconst (pc := 100) (v := 5) hx hb d_Mo_readEscaped_100 (by decide) ?_
          refine lv_icmp_ne (pc := 101) (tgt := 169) hx hb d_Mo_readEscaped_101 (by decide) (fun hc => ?_) (fun hc => ?_)
          · have h := h.1 hc
            exact j_Mo_readEscaped_169 X hr hlk hsz V (lv_sub hl [0, 1] rfl) h
          · have h := h.2 hc
            refine lv_iload_n (pc := 104) hx hb d_Mo_readEscaped_104 rfl (lv_at hl 2 rfl) ?_
            refine lv_bipush (pc := 105) (v := 104) hx hb d_Mo_readEscaped_105 (by decide) ?_
            refine lv_bipush (pc := 107) (v := 107) hx hb d_Mo_readEscaped_107 (by decide) ?_
            refine u_cSi (pc := 109) (As := [.int x2, .int 104, .int 107]) X V s_Mo_85 (c_Mo_isIn l D cc L A J t16 t32 _ _ x2 104 107 _ h) ⟨rfl, rfl, Nat.le_of_ble_eq_true rfl, Nat.le_of_ble_eq_true rfl⟩ rfl hl.1 rfl (Nat.le_of_ble_eq_true rfl) d_Mo_readEscaped_109 ⟨Nat.zero_le _, Nat.zero_le _⟩ (fun r10 I8 R9 h H locs V => ?_)
            refine lv_if_eq (pc := 112) (tgt := 169) hx hb d_Mo_readEscaped_112 (by decide) (fun hc => ?_) (fun hc => ?_)
            · have h := h.1 hc
              exact j_Mo_readEscaped_169 X hr hlk hsz V (lv_sub hl [0, 1] rfl) h
            · have h := h.2 hc
              refine lv_aload_n (pc := 115) hx hb d_Mo_readEscaped_115 rfl (lv_at hl 0 rfl) ?_
              refine u_getr (pc := 116) (o' := 90) X V (X.fix rfl) rfl rfl f_Mo_38 rfl rfl d_Mo_readEscaped_116 ?_
              refine lv_iload_n (pc := 119) hx hb d_Mo_readEscaped_119 rfl (lv_at hl 1 rfl) ?_
              refine lv_iload_n (pc := 120) hx hb d_Mo_readEscaped_120 rfl (lv_at hl 2 rfl) ?_
              refine u_iast (pc := 121) X V (X.fix rfl) rfl rfl h.1 d_Mo_readEscaped_121 (fun I11 eI11 H locs V => ?_)
              have h := h.2 I11 eI11
              refine lv_aload_n (pc := 122) hx hb d_Mo_readEscaped_122 rfl (lv_at hl 0 rfl) ?_
              refine u_getr (pc := 123) (o' := 89) X V (X.fix rfl) rfl rfl f_Mo_35 rfl rfl d_Mo_readEscaped_123 ?_
              refine lv_iload_n (pc := 126) hx hb d_Mo_readEscaped_126 rfl (lv_at hl 1 rfl) ?_
              refine lv_aload_n (pc := 127) hx hb d_Mo_readEscaped_127 rfl (lv_at hl 0 rfl) ?_
              refine u_getr (pc := 128) (o' := 84) X V (X.fix rfl) rfl rfl f_Mo_19 rfl rfl d_Mo_readEscaped_128 ?_
              refine lv_iload_n (pc := 131) hx hb d_Mo_readEscaped_131 rfl (lv_at hl 1 rfl) ?_
              refine u_iald (pc := 132) X V (X.fix rfl) rfl rfl h.1 d_Mo_readEscaped_132 ?_
              have h := h.2
              refine u_iast (pc := 133) X V (X.fix rfl) rfl rfl h.1 d_Mo_readEscaped_133 (fun I12 eI12 H locs V => ?_)
              have h := h.2 I12 eI12
              refine lv_aload_n (pc := 134) hx hb d_Mo_readEscaped_134 rfl (lv_at hl 0 rfl) ?_
              refine u_getr (pc := 135) (o' := 88) X V (X.fix rfl) rfl rfl f_Mo_32 rfl rfl d_Mo_readEscaped_135 ?_
              refine lv_bipush (pc := 138) (v := 80) hx hb d_Mo_readEscaped_138 (by decide) ?_
              refine lv_iload_n (pc := 140) hx hb d_Mo_readEscaped_140 rfl (lv_at hl 1 rfl) ?_
              refine lv_imul (pc := 141) hx hb d_Mo_readEscaped_141 ?_
              refine lv_aload_n (pc := 142) hx hb d_Mo_readEscaped_142 rfl (lv_at hl 0 rfl) ?_
              refine u_getr (pc := 143) (o' := 84) X V (X.fix rfl) rfl rfl f_Mo_19 rfl rfl d_Mo_readEscaped_143 ?_
              refine lv_iload_n (pc := 146) hx hb d_Mo_readEscaped_146 rfl (lv_at hl 1 rfl) ?_
              refine u_iald (pc := 147) X V (X.fix rfl) rfl rfl h.1 d_Mo_readEscaped_147 ?_
              have h := h.2
              refine lv_iadd (pc := 148) hx hb d_Mo_readEscaped_148 ?_
              refine lv_iload_n (pc := 149) hx hb d_Mo_readEscaped_149 rfl (lv_at hl 2 rfl) ?_
              refine u_iast (pc := 150) X V (X.fix rfl) rfl rfl h.1 d_Mo_readEscaped_150 (fun I13 eI13 H locs V => ?_)
              have h := h.2 I13 eI13
              refine lv_aload_n (pc := 151) hx hb d_Mo_readEscaped_151 rfl (lv_at hl 0 rfl) ?_
              refine u_getr (pc := 152) (o' := 83) X V (X.fix rfl) rfl rfl f_Mo_16 rfl rfl d_Mo_readEscaped_152 ?_
              refine lv_iload_n (pc := 155) hx hb d_Mo_readEscaped_155 rfl (lv_at hl 1 rfl) ?_
              refine lv_bipush (pc := 156) (v := 6) hx hb d_Mo_readEscaped_156 (by decide) ?_
              refine u_iast (pc := 158) X V (X.fix rfl) rfl rfl h.1 d_Mo_readEscaped_158 (fun I14 eI14 H locs V => ?_)
              have h := h.2 I14 eI14
              refine lv_aload_n (pc := 159) hx hb d_Mo_readEscaped_159 rfl (lv_at hl 0 rfl) ?_
              refine u_getr (pc := 160) (o' := 84) X V (X.fix rfl) rfl rfl f_Mo_19 rfl rfl d_Mo_readEscaped_160 ?_
              refine lv_iload_n (pc := 163) hx hb d_Mo_readEscaped_163 rfl (lv_at hl 1 rfl) ?_
              refine lv_iconst (pc := 164) (v := 0) hx hb d_Mo_readEscaped_164 (by decide) ?_
              refine u_iast (pc := 165) X V (X.fix rfl) rfl rfl h.1 d_Mo_readEscaped_165 (fun I15 eI15 H locs V => ?_)
              have h := h.2 I15 eI15
              refine lv_goto (pc := 166) (tgt := 191) hx hb d_Mo_readEscaped_166 (by decide) ?_
              exact u_retv (pc := 191) X V hr hlk hsz h d_Mo_readEscaped_191
        · have h := h.2 hc
          exact j_Mo_readEscaped_72 X hr hlk hsz V (lv_sub hl [0, 1, 2] rfl) h
    · have h := h.2 hc
      refine lv_aload_n (pc := 48) hx hb d_Mo_readEscaped_48 rfl (lv_at hl 0 rfl) ?_
      refine lv_iload_n (pc := 49) hx hb d_Mo_readEscaped_49 rfl (lv_at hl 1 rfl) ?_
      refine lv_iload_n (pc := 50) hx hb d_Mo_readEscaped_50 rfl (lv_at hl 2 rfl) ?_
      refine lv_bipush (pc := 51) (v := 64) hx hb d_Mo_readEscaped_51 (by decide) ?_
      refine lv_ixor (pc := 53) hx hb d_Mo_readEscaped_53 ?_
      refine u_cVv (pc := 54) (As := [.int x1, .int (x2 ^^^ 64)]) X V s_Mo_180 (X.fix rfl) rfl rfl rfl (c_Mo_plain l D cc L A J t16 t32 _ _ x1 (x2 ^^^ 64) _ h) ⟨rfl, rfl, Nat.le_of_ble_eq_true rfl, Nat.le_of_ble_eq_true rfl⟩ rfl hl.1 rfl (Nat.le_of_ble_eq_true rfl) d_Mo_readEscaped_54 ⟨Nat.zero_le _, Nat.zero_le _⟩ (fun I16 R17 h H locs V => ?_)
      refine lv_goto (pc := 57) (tgt := 191) hx hb d_Mo_readEscaped_57 (by decide) ?_
      exact u_retv (pc := 191) X V hr hlk hsz h d_Mo_readEscaped_191
  · have h := h.2 hc
    refine lv_iload_n (pc := 9) hx hb d_Mo_readEscaped_9 rfl (lv_at hl 2 rfl) ?_
    refine lv_bipush (pc := 10) (v := 24) hx hb d_Mo_readEscaped_10 (by decide) ?_
    refine lv_icmp_ne (pc := 12) (tgt := 25) hx hb d_Mo_readEscaped_12 (by decide) (fun hc => ?_) (fun hc => ?_)
    · have h := h.1 hc
      refine lv_aload_n (pc := 25) hx hb d_Mo_readEscaped_25 rfl (lv_at hl 0 rfl) ?_
      refine lv_iload_n (pc := 26) hx hb d_Mo_readEscaped_26 rfl (lv_at hl 1 rfl) ?_
      refine lv_iload_n (pc := 27) hx hb d_Mo_readEscaped_27 rfl (lv_at hl 2 rfl) ?_
      refine u_cVv (pc := 28) (As := [.int x1, .int x2]) X V s_Mo_180 (X.fix rfl) rfl rfl rfl (c_Mo_plain l D cc L A J t16 t32 _ _ x1 x2 _ h) ⟨rfl, rfl, Nat.le_of_ble_eq_true rfl, Nat.le_of_ble_eq_true rfl⟩ rfl hl.1 rfl (Nat.le_of_ble_eq_true rfl) d_Mo_readEscaped_28 ⟨Nat.zero_le _, Nat.zero_le _⟩ (fun I18 R19 h H locs V => ?_)
      exact u_retv (pc := 31) X V hr hlk hsz h d_Mo_readEscaped_31
    · have h := h.2 hc
      refine lv_aload_n (pc := 15) hx hb d_Mo_readEscaped_15 rfl (lv_at hl 0 rfl) ?_
      refine u_getr (pc := 16) (o' := 86) X V (X.fix rfl) rfl rfl f_Mo_25 rfl rfl d_Mo_readEscaped_16 ?_
      refine lv_iload_n (pc := 19) hx hb d_Mo_readEscaped_19 rfl (lv_at hl 1 rfl) ?_
      refine lv_iconst (pc := 20) (v := 1) hx hb d_Mo_readEscaped_20 (by decide) ?_
      refine u_zast (pc := 21) X V (X.fix rfl) rfl rfl h.1 h.2.1 d_Mo_readEscaped_21 (fun I20 eI20 H locs V => ?_)
      have h := h.2.2 I20 eI20
      refine lv_goto (pc := 22) (tgt := 31) hx hb d_Mo_readEscaped_22 (by decide) ?_
      exact u_retv (pc := 31) X V hr hlk hsz h d_Mo_readEscaped_31
-- FrameFerryModel.read (II)V
theorem d_Mo_read_0 : decode prog_10_method_26_code 0 = .ok (.aload_n 0, 1) := by decide +kernel
theorem d_Mo_read_1 : decode prog_10_method_26_code 1 = .ok (.getfield 16, 3) := by decide +kernel
theorem d_Mo_read_4 : decode prog_10_method_26_code 4 = .ok (.iload_n 1, 1) := by decide +kernel
theorem d_Mo_read_5 : decode prog_10_method_26_code 5 = .ok (.iaload, 1) := by decide +kernel
theorem d_Mo_read_6 : decode prog_10_method_26_code 6 = .ok (.tableswitch 143 0 3 #[30, 50, 80, 134], 30) := by decide +kernel
theorem d_Mo_read_36 : decode prog_10_method_26_code 36 = .ok (.aload_n 0, 1) := by decide +kernel
theorem d_Mo_read_37 : decode prog_10_method_26_code 37 = .ok (.getfield 16, 3) := by decide +kernel
theorem d_Mo_read_40 : decode prog_10_method_26_code 40 = .ok (.iload_n 1, 1) := by decide +kernel
theorem d_Mo_read_41 : decode prog_10_method_26_code 41 = .ok (.iload_n 2, 1) := by decide +kernel
theorem d_Mo_read_42 : decode prog_10_method_26_code 42 = .ok (.bipush 42, 2) := by decide +kernel
theorem d_Mo_read_44 : decode prog_10_method_26_code 44 = .ok (.if_icmp .ne 7, 3) := by decide +kernel
theorem d_Mo_read_47 : decode prog_10_method_26_code 47 = .ok (.iconst 1, 1) := by decide +kernel
theorem d_Mo_read_48 : decode prog_10_method_26_code 48 = .ok (.goto 4, 3) := by decide +kernel
theorem d_Mo_read_51 : decode prog_10_method_26_code 51 = .ok (.iconst 0, 1) := by decide +kernel
theorem d_Mo_read_52 : decode prog_10_method_26_code 52 = .ok (.iastore, 1) := by decide +kernel
theorem d_Mo_read_53 : decode prog_10_method_26_code 53 = .ok (.goto 102, 3) := by decide +kernel
theorem d_Mo_read_56 : decode prog_10_method_26_code 56 = .ok (.aload_n 0, 1) := by decide +kernel
theorem d_Mo_read_57 : decode prog_10_method_26_code 57 = .ok (.getfield 16, 3) := by decide +kernel
theorem d_Mo_read_60 : decode prog_10_method_26_code 60 = .ok (.iload_n 1, 1) := by decide +kernel
theorem d_Mo_read_61 : decode prog_10_method_26_code 61 = .ok (.iload_n 2, 1) := by decide +kernel
theorem d_Mo_read_62 : decode prog_10_method_26_code 62 = .ok (.bipush 42, 2) := by decide +kernel
theorem d_Mo_read_64 : decode prog_10_method_26_code 64 = .ok (.if_icmp .ne 7, 3) := by decide +kernel
theorem d_Mo_read_67 : decode prog_10_method_26_code 67 = .ok (.iconst 1, 1) := by decide +kernel
theorem d_Mo_read_68 : decode prog_10_method_26_code 68 = .ok (.goto 14, 3) := by decide +kernel
theorem d_Mo_read_71 : decode prog_10_method_26_code 71 = .ok (.iload_n 2, 1) := by decide +kernel
theorem d_Mo_read_72 : decode prog_10_method_26_code 72 = .ok (.bipush 24, 2) := by decide +kernel
theorem d_Mo_read_74 : decode prog_10_method_26_code 74 = .ok (.if_icmp .ne 7, 3) := by decide +kernel
theorem d_Mo_read_77 : decode prog_10_method_26_code 77 = .ok (.iconst 2, 1) := by decide +kernel
theorem d_Mo_read_78 : decode prog_10_method_26_code 78 = .ok (.goto 4, 3) := by decide +kernel
theorem d_Mo_read_81 : decode prog_10_method_26_code 81 = .ok (.iconst 0, 1) := by decide +kernel
theorem d_Mo_read_82 : decode prog_10_method_26_code 82 = .ok (.iastore, 1) := by decide +kernel
theorem d_Mo_read_83 : decode prog_10_method_26_code 83 = .ok (.goto 72, 3) := by decide +kernel
theorem d_Mo_read_86 : decode prog_10_method_26_code 86 = .ok (.aload_n 0, 1) := by decide +kernel
theorem d_Mo_read_87 : decode prog_10_method_26_code 87 = .ok (.iload_n 1, 1) := by decide +kernel
theorem d_Mo_read_88 : decode prog_10_method_26_code 88 = .ok (.iload_n 2, 1) := by decide +kernel
theorem d_Mo_read_89 : decode prog_10_method_26_code 89 = .ok (.bipush 66, 2) := by decide +kernel
theorem d_Mo_read_91 : decode prog_10_method_26_code 91 = .ok (.if_icmp .ne 7, 3) := by decide +kernel
theorem d_Mo_read_94 : decode prog_10_method_26_code 94 = .ok (.iconst 3, 1) := by decide +kernel
theorem d_Mo_read_95 : decode prog_10_method_26_code 95 = .ok (.goto 20, 3) := by decide +kernel
theorem d_Mo_read_98 : decode prog_10_method_26_code 98 = .ok (.iload_n 2, 1) := by decide +kernel
theorem d_Mo_read_99 : decode prog_10_method_26_code 99 = .ok (.bipush 65, 2) := by decide +kernel
theorem d_Mo_read_101 : decode prog_10_method_26_code 101 = .ok (.if_icmp .eq 9, 3) := by decide +kernel
theorem d_Mo_read_104 : decode prog_10_method_26_code 104 = .ok (.iload_n 2, 1) := by decide +kernel
theorem d_Mo_read_105 : decode prog_10_method_26_code 105 = .ok (.bipush 67, 2) := by decide +kernel
theorem d_Mo_read_107 : decode prog_10_method_26_code 107 = .ok (.if_icmp .ne 7, 3) := by decide +kernel
theorem d_Mo_read_110 : decode prog_10_method_26_code 110 = .ok (.iconst 4, 1) := by decide +kernel
theorem d_Mo_read_111 : decode prog_10_method_26_code 111 = .ok (.goto 4, 3) := by decide +kernel
theorem d_Mo_read_114 : decode prog_10_method_26_code 114 = .ok (.iconst 0, 1) := by decide +kernel
theorem d_Mo_read_115 : decode prog_10_method_26_code 115 = .ok (.invokevirtual 153, 3) := by decide +kernel
theorem d_Mo_read_118 : decode prog_10_method_26_code 118 = .ok (.aload_n 0, 1) := by decide +kernel
theorem d_Mo_read_119 : decode prog_10_method_26_code 119 = .ok (.getfield 29, 3) := by decide +kernel
theorem d_Mo_read_122 : decode prog_10_method_26_code 122 = .ok (.iload_n 1, 1) := by decide +kernel
theorem d_Mo_read_123 : decode prog_10_method_26_code 123 = .ok (.iload_n 2, 1) := by decide +kernel
theorem d_Mo_read_124 : decode prog_10_method_26_code 124 = .ok (.bipush 67, 2) := by decide +kernel
theorem d_Mo_read_126 : decode prog_10_method_26_code 126 = .ok (.if_icmp .ne 8, 3) := by decide +kernel
theorem d_Mo_read_129 : decode prog_10_method_26_code 129 = .ok (.bipush 32, 2) := by decide +kernel
theorem d_Mo_read_131 : decode prog_10_method_26_code 131 = .ok (.goto 5, 3) := by decide +kernel
theorem d_Mo_read_134 : decode prog_10_method_26_code 134 = .ok (.bipush 16, 2) := by decide +kernel
theorem d_Mo_read_136 : decode prog_10_method_26_code 136 = .ok (.iastore, 1) := by decide +kernel
theorem d_Mo_read_137 : decode prog_10_method_26_code 137 = .ok (.goto 18, 3) := by decide +kernel
theorem d_Mo_read_140 : decode prog_10_method_26_code 140 = .ok (.aload_n 0, 1) := by decide +kernel
theorem d_Mo_read_141 : decode prog_10_method_26_code 141 = .ok (.iload_n 1, 1) := by decide +kernel
theorem d_Mo_read_142 : decode prog_10_method_26_code 142 = .ok (.iload_n 2, 1) := by decide +kernel
theorem d_Mo_read_143 : decode prog_10_method_26_code 143 = .ok (.invokevirtual 167, 3) := by decide +kernel
theorem d_Mo_read_146 : decode prog_10_method_26_code 146 = .ok (.goto 9, 3) := by decide +kernel
theorem d_Mo_read_149 : decode prog_10_method_26_code 149 = .ok (.aload_n 0, 1) := by decide +kernel
theorem d_Mo_read_150 : decode prog_10_method_26_code 150 = .ok (.iload_n 1, 1) := by decide +kernel
theorem d_Mo_read_151 : decode prog_10_method_26_code 151 = .ok (.iload_n 2, 1) := by decide +kernel
theorem d_Mo_read_152 : decode prog_10_method_26_code 152 = .ok (.invokevirtual 170, 3) := by decide +kernel
theorem d_Mo_read_155 : decode prog_10_method_26_code 155 = .ok (.return_, 1) := by decide +kernel
def rm_Mo_read : Room := { frames := 10, cells := 0, slots := 0, locals := 226 }
def wp_Mo_read_L52 (Q : UI → UR → Prop) (I : UI) (R : UR) (s0 : Int32) (s1 : Int32) : Prop :=
  vp_in s1 2 ∧ ∀ I2 : UI, I2 = u2 I 83 s1.toNatClampNeg s0 → Q I2 R
set_option maxHeartbeats 4000000 in
set_option maxRecDepth 100000 in
theorem j_Mo_read_52 (X : uX p s m args c prog_10_method_26_code 3 "FrameFerryModel" D cc L A t16 t32) (hr : meth.sig.returnType = none) (hlk : meth.locks = false) (hsz : sz = s.heap.size) {Q : UI → UR → Prop} {I : UI} {R : UR} {s0 : Int32} {s1 : Int32} {H : Heap} {locs : List Loc} {ls : Array Slot} (V : uV s D cc L A J I R H locs) (hl : lv_has ls 3 []) (h : wp_Mo_read_L52 Q I R s0 s1) : W p l e rm_Mo_read s m args below meth c H locs 0 0 (MQ below (va_Qv (fun u : UI × UR => Q u.1 u.2) (uBv D cc L A J) (uA L A sz)) args s 0 0 (uA L A sz)) (F0 m 52 ls [.int s0, .int s1, .ref (A 83)]) := by
  have hx := X.1
  have hb := X.2.1
  unfold wp_Mo_read_L52 at h
  refine u_iast (pc := 52) X V (X.fix rfl) rfl rfl h.1 d_Mo_read_52 (fun I2 eI2 H locs V => ?_)
  have h := h.2 I2 eI2
  refine lv_goto (pc := 53) (tgt := 155) hx hb d_Mo_read_53 (by decide) ?_
  exact u_retv (pc := 155) X V hr hlk hsz h d_Mo_read_155
def wp_Mo_read_L82 (Q : UI → UR → Prop) (I : UI) (R : UR) (s0 : Int32) (s1 : Int32) : Prop :=
  vp_in s1 2 ∧ ∀ I3 : UI, I3 = u2 I 83 s1.toNatClampNeg s0 → Q I3 R
set_option maxHeartbeats 4000000 in
set_option maxRecDepth 100000 in
theorem j_Mo_read_82 (X : uX p s m args c prog_10_method_26_code 3 "FrameFerryModel" D cc L A t16 t32) (hr : meth.sig.returnType = none) (hlk : meth.locks = false) (hsz : sz = s.heap.size) {Q : UI → UR → Prop} {I : UI} {R : UR} {s0 : Int32} {s1 : Int32} {H : Heap} {locs : List Loc} {ls : Array Slot} (V : uV s D cc L A J I R H locs) (hl : lv_has ls 3 []) (h : wp_Mo_read_L82 Q I R s0 s1) : W p l e rm_Mo_read s m args below meth c H locs 0 0 (MQ below (va_Qv (fun u : UI × UR => Q u.1 u.2) (uBv D cc L A J) (uA L A sz)) args s 0 0 (uA L A sz)) (F0 m 82 ls [.int s0, .int s1, .ref (A 83)]) := by
  have hx := X.1
  have hb := X.2.1
  unfold wp_Mo_read_L82 at h
  refine u_iast (pc := 82) X V (X.fix rfl) rfl rfl h.1 d_Mo_read_82 (fun I3 eI3 H locs V => ?_)
  have h := h.2 I3 eI3
  refine lv_goto (pc := 83) (tgt := 155) hx hb d_Mo_read_83 (by decide) ?_
  exact u_retv (pc := 155) X V hr hlk hsz h d_Mo_read_155
def wp_Mo_read_L136 (Q : UI → UR → Prop) (I : UI) (R : UR) (s0 : Int32) (s1 : Int32) : Prop :=
  vp_in s1 2 ∧ ∀ I6 : UI, I6 = u2 I 87 s1.toNatClampNeg s0 → Q I6 R
set_option maxHeartbeats 4000000 in
set_option maxRecDepth 100000 in
theorem j_Mo_read_136 (X : uX p s m args c prog_10_method_26_code 3 "FrameFerryModel" D cc L A t16 t32) (hr : meth.sig.returnType = none) (hlk : meth.locks = false) (hsz : sz = s.heap.size) {Q : UI → UR → Prop} {I : UI} {R : UR} {s0 : Int32} {s1 : Int32} {H : Heap} {locs : List Loc} {ls : Array Slot} (V : uV s D cc L A J I R H locs) (hl : lv_has ls 3 []) (h : wp_Mo_read_L136 Q I R s0 s1) : W p l e rm_Mo_read s m args below meth c H locs 0 0 (MQ below (va_Qv (fun u : UI × UR => Q u.1 u.2) (uBv D cc L A J) (uA L A sz)) args s 0 0 (uA L A sz)) (F0 m 136 ls [.int s0, .int s1, .ref (A 87)]) := by
  have hx := X.1
  have hb := X.2.1
  unfold wp_Mo_read_L136 at h
  refine u_iast (pc := 136) X V (X.fix rfl) rfl rfl h.1 d_Mo_read_136 (fun I6 eI6 H locs V => ?_)
  have h := h.2 I6 eI6
  refine lv_goto (pc := 137) (tgt := 155) hx hb d_Mo_read_137 (by decide) ?_
  exact u_retv (pc := 155) X V hr hlk hsz h d_Mo_read_155
def wp_Mo_read_L115 (Q : UI → UR → Prop) (I : UI) (R : UR) (x1 : Int32) (x2 : Int32) (s0 : Int32) (s1 : Int32) : Prop :=
  wp_Mo_begin I R s1 s0 (fun I4 R5 => ((¬ x2 = 67 → wp_Mo_read_L136 Q I4 R5 16 x1) ∧ (x2 = 67 → wp_Mo_read_L136 Q I4 R5 32 x1)))
set_option maxHeartbeats 4000000 in
set_option maxRecDepth 100000 in
theorem j_Mo_read_115 (X : uX p s m args c prog_10_method_26_code 3 "FrameFerryModel" D cc L A t16 t32) (hr : meth.sig.returnType = none) (hlk : meth.locks = false) (hsz : sz = s.heap.size) {Q : UI → UR → Prop} {I : UI} {R : UR} {x1 : Int32} {x2 : Int32} {s0 : Int32} {s1 : Int32} {H : Heap} {locs : List Loc} {ls : Array Slot} (V : uV s D cc L A J I R H locs) (hl : lv_has ls 3 [(0, .ref (A 80)), (1, .int x1), (2, .int x2)]) (h : wp_Mo_read_L115 Q I R x1 x2 s0 s1) : W p l e rm_Mo_read s m args below meth c H locs 0 0 (MQ below (va_Qv (fun u : UI × UR => Q u.1 u.2) (uBv D cc L A J) (uA L A sz)) args s 0 0 (uA L A sz)) (F0 m 115 ls [.int s0, .int s1, .ref (A 80)]) := by
  have hx := X.1
  have hb := X.2.1
  unfold wp_Mo_read_L115 at h
  refine u_cVv (pc := 115) (As := [.int s1, .int s0]) X V s_Mo_153 (X.fix rfl) rfl rfl rfl (c_Mo_begin l D cc L A J t16 t32 _ _ s1 s0 _ h) ⟨rfl, rfl, Nat.le_of_ble_eq_true rfl, Nat.le_of_ble_eq_true rfl⟩ rfl hl.1 rfl (Nat.le_of_ble_eq_true rfl) d_Mo_read_115 ⟨Nat.zero_le _, Nat.zero_le _⟩ (fun I4 R5 h H locs V => ?_)
  refine lv_aload_n (pc := 118) hx hb d_Mo_read_118 rfl (lv_at hl 0 rfl) ?_
  refine u_getr (pc := 119) (o' := 87) X V (X.fix rfl) rfl rfl f_Mo_29 rfl rfl d_Mo_read_119 ?_
  refine lv_iload_n (pc := 122) hx hb d_Mo_read_122 rfl (lv_at hl 1 rfl) ?_
  refine lv_iload_n (pc := 123) hx hb d_Mo_read_123 rfl (lv_at hl 2 rfl) ?_
  refine lv_bipush (pc := 124) (v := 67) hx hb d_Mo_read_124 (by decide) ?_
  refine lv_icmp_ne (pc := 126) (tgt := 134) hx hb d_Mo_read_126 (by decide) (fun hc => ?_) (fun hc => ?_)
  · have h := h.1 hc
    refine lv_bipush (pc := 134) (v := 16) hx hb d_Mo_read_134 (by decide) ?_
    exact j_Mo_read_136 X hr hlk hsz V (lv_sub hl [] rfl) h
  · have h := h.2 hc
    refine lv_bipush (pc := 129) (v := 32) hx hb d_Mo_read_129 (by decide) ?_
    refine lv_goto (pc := 131) (tgt := 136) hx hb d_Mo_read_131 (by decide) ?_
    exact j_Mo_read_136 X hr hlk hsz V (lv_sub hl [] rfl) h
def wp_Mo_read_L110 (Q : UI → UR → Prop) (I : UI) (R : UR) (x1 : Int32) (x2 : Int32) (s0 : Int32) : Prop :=
  wp_Mo_read_L115 Q I R x1 x2 4 s0
set_option maxHeartbeats 4000000 in
set_option maxRecDepth 100000 in
theorem j_Mo_read_110 (X : uX p s m args c prog_10_method_26_code 3 "FrameFerryModel" D cc L A t16 t32) (hr : meth.sig.returnType = none) (hlk : meth.locks = false) (hsz : sz = s.heap.size) {Q : UI → UR → Prop} {I : UI} {R : UR} {x1 : Int32} {x2 : Int32} {s0 : Int32} {H : Heap} {locs : List Loc} {ls : Array Slot} (V : uV s D cc L A J I R H locs) (hl : lv_has ls 3 [(0, .ref (A 80)), (1, .int x1), (2, .int x2)]) (h : wp_Mo_read_L110 Q I R x1 x2 s0) : W p l e rm_Mo_read s m args below meth c H locs 0 0 (MQ below (va_Qv (fun u : UI × UR => Q u.1 u.2) (uBv D cc L A J) (uA L A sz)) args s 0 0 (uA L A sz)) (F0 m 110 ls [.int s0, .ref (A 80)]) := by
  have hx := X.1
  have hb := X.2.1
  unfold wp_Mo_read_L110 at h
  refine lv_iconst (pc := 110) (v := 4) hx hb d_Mo_read_110 (by decide) ?_
  refine lv_goto (pc := 111) (tgt := 115) hx hb d_Mo_read_111 (by decide) ?_
  exact j_Mo_read_115 X hr hlk hsz V (lv_sub hl [0, 1, 2] rfl) h
def wp_Mo_read (I : UI) (R : UR) (x1 : Int32) (x2 : Int32) (Q : UI → UR → Prop) : Prop :=
  vp_in x1 2 ∧ ∀ v1 : Int32, v1 = I 83 x1.toNatClampNeg → ((v1 = 0 → ((¬ x2 = 42 → wp_Mo_read_L52 Q I R 0 x1) ∧ (x2 = 42 → wp_Mo_read_L52 Q I R 1 x1))) ∧ (¬ v1 = 0 → ((v1 = 1 → ((¬ x2 = 42 → ((¬ x2 = 24 → wp_Mo_read_L82 Q I R 0 x1) ∧ (x2 = 24 → wp_Mo_read_L82 Q I R 2 x1))) ∧ (x2 = 42 → wp_Mo_read_L82 Q I R 1 x1))) ∧ (¬ v1 = 1 → ((v1 = 2 → ((¬ x2 = 66 → ((x2 = 65 → wp_Mo_read_L110 Q I R x1 x2 x1) ∧ (¬ x2 = 65 → ((¬ x2 = 67 → wp_Mo_read_L115 Q I R x1 x2 0 x1) ∧ (x2 = 67 → wp_Mo_read_L110 Q I R x1 x2 x1))))) ∧ (x2 = 66 → wp_Mo_read_L115 Q I R x1 x2 3 x1))) ∧ (¬ v1 = 2 → ((v1 = 3 → wp_Mo_readDigit I R x1 x2 (fun I7 R8 => Q I7 R8)) ∧ (¬ v1 = 3 → wp_Mo_readEscaped I R x1 x2 (fun I9 R10 => Q I9 R10)))))))))
set_option maxHeartbeats 4000000 in
set_option maxRecDepth 100000 in
theorem c_Mo_read (l : Launch) (D : va_G) (cc : Nat → ClassId) (L : List Nat) (A : Nat → Nat) (J : Nat → Int64) (t16 t32 : Nat) (I : UI) (R : UR) (x1 : Int32) (x2 : Int32) (Q : UI → UR → Prop) (h : wp_Mo_read I R x1 x2 Q) : uMv l y_Mo_read (.code y_Mo_read prog_10_method_26_code 3 none) rm_Mo_read [.ref (A 80), .int x1, .int x2] D cc L A J t16 t32 I R Q := by
  intro sz
  refine u_entry (by decide) (Nat.le_of_ble_eq_true rfl) (fun p e s m args below meth c hsz X V hr hlk ls hl => ?_)
  have X : uX p s m args c prog_10_method_26_code 3 "FrameFerryModel" D cc L A t16 t32 := X
  have hx := X.1
  have hb := X.2.1
  have hl : lv_has ls 3 [(0, .ref (A 80)), (1, .int x1), (2, .int x2)] := hl
  unfold wp_Mo_read at h
  generalize hH : s.heap = H at V ⊢
  generalize hlo : ([] : List Loc) = locs at V ⊢
  refine lv_aload_n (pc := 0) hx hb d_Mo_read_0 rfl (lv_at hl 0 rfl) ?_
  refine u_getr (pc := 1) (o' := 83) X V (X.fix rfl) rfl rfl f_Mo_16 rfl rfl d_Mo_read_1 ?_
  refine lv_iload_n (pc := 4) hx hb d_Mo_read_4 rfl (lv_at hl 1 rfl) ?_
  refine u_iald (pc := 5) X V (X.fix rfl) rfl rfl h.1 d_Mo_read_5 ?_
  have h := h.2
  refine lv_topi (fun v1 ev1 => ?_)
  have h := h v1 ev1
  by_cases hn0 : v1 = 0
  · have h := h.1 hn0
    rw [hn0]
    refine lv_tableIn (pc := 6) (tgt := 36) (off := 30) hx hb d_Mo_read_6 (by decide) (by decide) rfl (by decide) ?_
    refine lv_aload_n (pc := 36) hx hb d_Mo_read_36 rfl (lv_at hl 0 rfl) ?_
    refine u_getr (pc := 37) (o' := 83) X V (X.fix rfl) rfl rfl f_Mo_16 rfl rfl d_Mo_read_37 ?_
    refine lv_iload_n (pc := 40) hx hb d_Mo_read_40 rfl (lv_at hl 1 rfl) ?_
    refine lv_iload_n (pc := 41) hx hb d_Mo_read_41 rfl (lv_at hl 2 rfl) ?_
    refine lv_bipush (pc := 42) (v := 42) hx hb d_Mo_read_42 (by decide) ?_
    refine lv_icmp_ne (pc := 44) (tgt := 51) hx hb d_Mo_read_44 (by decide) (fun hc => ?_) (fun hc => ?_)
    · have h := h.1 hc
      refine lv_iconst (pc := 51) (v := 0) hx hb d_Mo_read_51 (by decide) ?_
      exact j_Mo_read_52 X hr hlk hsz V (lv_sub hl [] rfl) h
    · have h := h.2 hc
      refine lv_iconst (pc := 47) (v := 1) hx hb d_Mo_read_47 (by decide) ?_
      refine lv_goto (pc := 48) (tgt := 52) hx hb d_Mo_read_48 (by decide) ?_
      exact j_Mo_read_52 X hr hlk hsz V (lv_sub hl [] rfl) h
  · have h := h.2 hn0
    by_cases hn1 : v1 = 1
    · have h := h.1 hn1
      rw [hn1]
      refine lv_tableIn (pc := 6) (tgt := 56) (off := 50) hx hb d_Mo_read_6 (by decide) (by decide) rfl (by decide) ?_
      refine lv_aload_n (pc := 56) hx hb d_Mo_read_56 rfl (lv_at hl 0 rfl) ?_
      refine u_getr (pc := 57) (o' := 83) X V (X.fix rfl) rfl rfl f_Mo_16 rfl rfl d_Mo_read_57 ?_
      refine lv_iload_n (pc := 60) hx hb d_Mo_read_60 rfl (lv_at hl 1 rfl) ?_
      refine lv_iload_n (pc := 61) hx hb d_Mo_read_61 rfl (lv_at hl 2 rfl) ?_
      refine lv_bipush (pc := 62) (v := 42) hx hb d_Mo_read_62 (by decide) ?_
      refine lv_icmp_ne (pc := 64) (tgt := 71) hx hb d_Mo_read_64 (by decide) (fun hc => ?_) (fun hc => ?_)
      · have h := h.1 hc
        refine lv_iload_n (pc := 71) hx hb d_Mo_read_71 rfl (lv_at hl 2 rfl) ?_
        refine lv_bipush (pc := 72) (v := 24) hx hb d_Mo_read_72 (by decide) ?_
        refine lv_icmp_ne (pc := 74) (tgt := 81) hx hb d_Mo_read_74 (by decide) (fun hc => ?_) (fun hc => ?_)
        · have h := h.1 hc
          refine lv_iconst (pc := 81) (v := 0) hx hb d_Mo_read_81 (by decide) ?_
          exact j_Mo_read_82 X hr hlk hsz V (lv_sub hl [] rfl) h
        · have h := h.2 hc
          refine lv_iconst (pc := 77) (v := 2) hx hb d_Mo_read_77 (by decide) ?_
          refine lv_goto (pc := 78) (tgt := 82) hx hb d_Mo_read_78 (by decide) ?_
          exact j_Mo_read_82 X hr hlk hsz V (lv_sub hl [] rfl) h
      · have h := h.2 hc
        refine lv_iconst (pc := 67) (v := 1) hx hb d_Mo_read_67 (by decide) ?_
        refine lv_goto (pc := 68) (tgt := 82) hx hb d_Mo_read_68 (by decide) ?_
        exact j_Mo_read_82 X hr hlk hsz V (lv_sub hl [] rfl) h
    · have h := h.2 hn1
      by_cases hn2 : v1 = 2
      · have h := h.1 hn2
        rw [hn2]
        refine lv_tableIn (pc := 6) (tgt := 86) (off := 80) hx hb d_Mo_read_6 (by decide) (by decide) rfl (by decide) ?_
        refine lv_aload_n (pc := 86) hx hb d_Mo_read_86 rfl (lv_at hl 0 rfl) ?_
        refine lv_iload_n (pc := 87) hx hb d_Mo_read_87 rfl (lv_at hl 1 rfl) ?_
        refine lv_iload_n (pc := 88) hx hb d_Mo_read_88 rfl (lv_at hl 2 rfl) ?_
        refine lv_bipush (pc := 89) (v := 66) hx hb d_Mo_read_89 (by decide) ?_
        refine lv_icmp_ne (pc := 91) (tgt := 98) hx hb d_Mo_read_91 (by decide) (fun hc => ?_) (fun hc => ?_)
        · have h := h.1 hc
          refine lv_iload_n (pc := 98) hx hb d_Mo_read_98 rfl (lv_at hl 2 rfl) ?_
          refine lv_bipush (pc := 99) (v := 65) hx hb d_Mo_read_99 (by decide) ?_
          refine lv_icmp_eq (pc := 101) (tgt := 110) hx hb d_Mo_read_101 (by decide) (fun hc => ?_) (fun hc => ?_)
          · have h := h.1 hc
            exact j_Mo_read_110 X hr hlk hsz V (lv_sub hl [0, 1, 2] rfl) h
          · have h := h.2 hc
            refine lv_iload_n (pc := 104) hx hb d_Mo_read_104 rfl (lv_at hl 2 rfl) ?_
            refine lv_bipush (pc := 105) (v := 67) hx hb d_Mo_read_105 (by decide) ?_
            refine lv_icmp_ne (pc := 107) (tgt := 114) hx hb d_Mo_read_107 (by decide) (fun hc => ?_) (fun hc => ?_)
            · have h := h.1 hc
              refine lv_iconst (pc := 114) (v := 0) hx hb d_Mo_read_114 (by decide) ?_
              exact j_Mo_read_115 X hr hlk hsz V (lv_sub hl [0, 1, 2] rfl) h
            · have h := h.2 hc
              exact j_Mo_read_110 X hr hlk hsz V (lv_sub hl [0, 1, 2] rfl) h
        · have h := h.2 hc
          refine lv_iconst (pc := 94) (v := 3) hx hb d_Mo_read_94 (by decide) ?_
          refine lv_goto (pc := 95) (tgt := 115) hx hb d_Mo_read_95 (by decide) ?_
          exact j_Mo_read_115 X hr hlk hsz V (lv_sub hl [0, 1, 2] rfl) h
      · have h := h.2 hn2
        by_cases hn3 : v1 = 3
        · have h := h.1 hn3
          rw [hn3]
          refine lv_tableIn (pc := 6) (tgt := 140) (off := 134) hx hb d_Mo_read_6 (by decide) (by decide) rfl (by decide) ?_
          refine lv_aload_n (pc := 140) hx hb d_Mo_read_140 rfl (lv_at hl 0 rfl) ?_
          refine lv_iload_n (pc := 141) hx hb d_Mo_read_141 rfl (lv_at hl 1 rfl) ?_
          refine lv_iload_n (pc := 142) hx hb d_Mo_read_142 rfl (lv_at hl 2 rfl) ?_
          refine u_cVv (pc := 143) (As := [.int x1, .int x2]) X V s_Mo_167 (X.fix rfl) rfl rfl rfl (c_Mo_readDigit l D cc L A J t16 t32 _ _ x1 x2 _ h) ⟨rfl, rfl, Nat.le_of_ble_eq_true rfl, Nat.le_of_ble_eq_true rfl⟩ rfl hl.1 rfl (Nat.le_of_ble_eq_true rfl) d_Mo_read_143 ⟨Nat.zero_le _, Nat.zero_le _⟩ (fun I7 R8 h H locs V => ?_)
          refine lv_goto (pc := 146) (tgt := 155) hx hb d_Mo_read_146 (by decide) ?_
          exact u_retv (pc := 155) X V hr hlk hsz h d_Mo_read_155
        · have h := h.2 hn3
          have hd0 := nr_ok (a := 0) hn0 rfl
          have hd1 := nr_ok (a := 1) hn1 rfl
          have hd2 := nr_ok (a := 2) hn2 rfl
          have hd3 := nr_ok (a := 3) hn3 rfl
          refine lv_tableOut (pc := 6) (tgt := 149) hx hb d_Mo_read_6 (by omega) (by decide) ?_
          refine lv_aload_n (pc := 149) hx hb d_Mo_read_149 rfl (lv_at hl 0 rfl) ?_
          refine lv_iload_n (pc := 150) hx hb d_Mo_read_150 rfl (lv_at hl 1 rfl) ?_
          refine lv_iload_n (pc := 151) hx hb d_Mo_read_151 rfl (lv_at hl 2 rfl) ?_
          refine u_cVv (pc := 152) (As := [.int x1, .int x2]) X V s_Mo_170 (X.fix rfl) rfl rfl rfl (c_Mo_readEscaped l D cc L A J t16 t32 _ _ x1 x2 _ h) ⟨rfl, rfl, Nat.le_of_ble_eq_true rfl, Nat.le_of_ble_eq_true rfl⟩ rfl hl.1 rfl (Nat.le_of_ble_eq_true rfl) d_Mo_read_152 ⟨Nat.zero_le _, Nat.zero_le _⟩ (fun I9 R10 h H locs V => ?_)
          exact u_retv (pc := 155) X V hr hlk hsz h d_Mo_read_155
-- FrameFerryModel.take (III)V
theorem d_Mo_take_0 : decode prog_10_method_41_code 0 = .ok (.aload_n 0, 1) := by decide +kernel
theorem d_Mo_take_1 : decode prog_10_method_41_code 1 = .ok (.getfield 13, 3) := by decide +kernel
theorem d_Mo_take_4 : decode prog_10_method_41_code 4 = .ok (.iload_n 1, 1) := by decide +kernel
theorem d_Mo_take_5 : decode prog_10_method_41_code 5 = .ok (.aload_n 0, 1) := by decide +kernel
theorem d_Mo_take_6 : decode prog_10_method_41_code 6 = .ok (.getfield 13, 3) := by decide +kernel
theorem d_Mo_take_9 : decode prog_10_method_41_code 9 = .ok (.iload_n 1, 1) := by decide +kernel
theorem d_Mo_take_10 : decode prog_10_method_41_code 10 = .ok (.iaload, 1) := by decide +kernel
theorem d_Mo_take_11 : decode prog_10_method_41_code 11 = .ok (.iload_n 3, 1) := by decide +kernel
theorem d_Mo_take_12 : decode prog_10_method_41_code 12 = .ok (.isub, 1) := by decide +kernel
theorem d_Mo_take_13 : decode prog_10_method_41_code 13 = .ok (.iastore, 1) := by decide +kernel
theorem d_Mo_take_14 : decode prog_10_method_41_code 14 = .ok (.iload_n 2, 1) := by decide +kernel
theorem d_Mo_take_15 : decode prog_10_method_41_code 15 = .ok (.istore 4, 2) := by decide +kernel
theorem d_Mo_take_17 : decode prog_10_method_41_code 17 = .ok (.iload 4, 2) := by decide +kernel
theorem d_Mo_take_19 : decode prog_10_method_41_code 19 = .ok (.aload_n 0, 1) := by decide +kernel
theorem d_Mo_take_20 : decode prog_10_method_41_code 20 = .ok (.getfield 13, 3) := by decide +kernel
theorem d_Mo_take_23 : decode prog_10_method_41_code 23 = .ok (.iload_n 1, 1) := by decide +kernel
theorem d_Mo_take_24 : decode prog_10_method_41_code 24 = .ok (.iaload, 1) := by decide +kernel
theorem d_Mo_take_25 : decode prog_10_method_41_code 25 = .ok (.if_icmp .ge 37, 3) := by decide +kernel
theorem d_Mo_take_28 : decode prog_10_method_41_code 28 = .ok (.aload_n 0, 1) := by decide +kernel
theorem d_Mo_take_29 : decode prog_10_method_41_code 29 = .ok (.getfield 7, 3) := by decide +kernel
theorem d_Mo_take_32 : decode prog_10_method_41_code 32 = .ok (.sipush 3000, 3) := by decide +kernel
theorem d_Mo_take_35 : decode prog_10_method_41_code 35 = .ok (.iload_n 1, 1) := by decide +kernel
theorem d_Mo_take_36 : decode prog_10_method_41_code 36 = .ok (.imul, 1) := by decide +kernel
theorem d_Mo_take_37 : decode prog_10_method_41_code 37 = .ok (.iload 4, 2) := by decide +kernel
theorem d_Mo_take_39 : decode prog_10_method_41_code 39 = .ok (.iadd, 1) := by decide +kernel
theorem d_Mo_take_40 : decode prog_10_method_41_code 40 = .ok (.aload_n 0, 1) := by decide +kernel
theorem d_Mo_take_41 : decode prog_10_method_41_code 41 = .ok (.getfield 7, 3) := by decide +kernel
theorem d_Mo_take_44 : decode prog_10_method_41_code 44 = .ok (.sipush 3000, 3) := by decide +kernel
theorem d_Mo_take_47 : decode prog_10_method_41_code 47 = .ok (.iload_n 1, 1) := by decide +kernel
theorem d_Mo_take_48 : decode prog_10_method_41_code 48 = .ok (.imul, 1) := by decide +kernel
theorem d_Mo_take_49 : decode prog_10_method_41_code 49 = .ok (.iload 4, 2) := by decide +kernel
theorem d_Mo_take_51 : decode prog_10_method_41_code 51 = .ok (.iadd, 1) := by decide +kernel
theorem d_Mo_take_52 : decode prog_10_method_41_code 52 = .ok (.iload_n 3, 1) := by decide +kernel
theorem d_Mo_take_53 : decode prog_10_method_41_code 53 = .ok (.iadd, 1) := by decide +kernel
theorem d_Mo_take_54 : decode prog_10_method_41_code 54 = .ok (.iaload, 1) := by decide +kernel
theorem d_Mo_take_55 : decode prog_10_method_41_code 55 = .ok (.iastore, 1) := by decide +kernel
theorem d_Mo_take_56 : decode prog_10_method_41_code 56 = .ok (.iinc 4 1, 3) := by decide +kernel
theorem d_Mo_take_59 : decode prog_10_method_41_code 59 = .ok (.goto (-42), 3) := by decide +kernel
theorem d_Mo_take_62 : decode prog_10_method_41_code 62 = .ok (.return_, 1) := by decide +kernel
def rm_Mo_take : Room := { frames := 0, cells := 0, slots := 0, locals := 0 }
def wp_Mo_take_L17 (Q : UI → UR → Prop) : Nat → UI → UR → Int32 → Int32 → Int32 → Prop
  | 0, _, _, _, _, _ => False
  | n + 1, I, R, x1, x3, x4 => vp_in x1 2 ∧ ((I 82 x1.toNatClampNeg ≤ x4 → Q I R) ∧ (¬ I 82 x1.toNatClampNeg ≤ x4 → vp_in (((3000 * x1) + x4) + x3) 6000 ∧ vp_in ((3000 * x1) + x4) 6000 ∧ ∀ I2 : UI, I2 = u2 I 81 (((3000 * x1) + x4).toNatClampNeg) (I 81 (((3000 * x1) + x4) + x3).toNatClampNeg) → ∀ v3 : Int32, v3 = x4 + 1 → wp_Mo_take_L17 Q n I2 R x1 x3 v3))
set_option maxHeartbeats 4000000 in
set_option maxRecDepth 100000 in
theorem j_Mo_take_17 (X : uX p s m args c prog_10_method_41_code 5 "FrameFerryModel" D cc L A t16 t32) (hr : meth.sig.returnType = none) (hlk : meth.locks = false) (hsz : sz = s.heap.size) {Q : UI → UR → Prop} : ∀ (n : Nat) (I : UI) (R : UR) (x1 : Int32) (x3 : Int32) (x4 : Int32) (H : Heap) (locs : List Loc) (ls : Array Slot), uV s D cc L A J I R H locs → lv_has ls 5 [(0, .ref (A 80)), (1, .int x1), (3, .int x3), (4, .int x4)] → wp_Mo_take_L17 Q n I R x1 x3 x4 → W p l e rm_Mo_take s m args below meth c H locs 0 0 (MQ below (va_Qv (fun u : UI × UR => Q u.1 u.2) (uBv D cc L A J) (uA L A sz)) args s 0 0 (uA L A sz)) (F0 m 17 ls []) := by
  intro n
  induction n with
  | zero => exact fun I R x1 x3 x4 H locs ls V hl h => False.elim h
  | succ n ih =>
    intro I R x1 x3 x4 H locs ls V hl h
    have hx := X.1
    have hb := X.2.1
    rw [wp_Mo_take_L17] at h
    refine lv_iload (pc := 17) hx hb d_Mo_take_17 (lv_at hl 3 rfl) ?_
    refine lv_aload_n (pc := 19) hx hb d_Mo_take_19 rfl (lv_at hl 0 rfl) ?_
    refine u_getr (pc := 20) (o' := 82) X V (X.fix rfl) rfl rfl f_Mo_13 rfl rfl d_Mo_take_20 ?_
    refine lv_iload_n (pc := 23) hx hb d_Mo_take_23 rfl (lv_at hl 1 rfl) ?_
    refine u_iald (pc := 24) X V (X.fix rfl) rfl rfl h.1 d_Mo_take_24 ?_
    have h := h.2
    refine lv_icmp_ge (pc := 25) (tgt := 62) hx hb d_Mo_take_25 (by decide) (fun hc => ?_) (fun hc => ?_)
    · have h := h.1 hc
      exact u_retv (pc := 62) X V hr hlk hsz h d_Mo_take_62
    · have h := h.2 hc
      refine lv_aload_n (pc := 28) hx hb d_Mo_take_28 rfl (lv_at hl 0 rfl) ?_
      refine u_getr (pc := 29) (o' := 81) X V (X.fix rfl) rfl rfl f_Mo_7 rfl rfl d_Mo_take_29 ?_
      refine lv_sipush (pc := 32) (v := 3000) hx hb d_Mo_take_32 (by decide) ?_
      refine lv_iload_n (pc := 35) hx hb d_Mo_take_35 rfl (lv_at hl 1 rfl) ?_
      refine lv_imul (pc := 36) hx hb d_Mo_take_36 ?_
      refine lv_iload (pc := 37) hx hb d_Mo_take_37 (lv_at hl 3 rfl) ?_
      refine lv_iadd (pc := 39) hx hb d_Mo_take_39 ?_
      refine lv_aload_n (pc := 40) hx hb d_Mo_take_40 rfl (lv_at hl 0 rfl) ?_
      refine u_getr (pc := 41) (o' := 81) X V (X.fix rfl) rfl rfl f_Mo_7 rfl rfl d_Mo_take_41 ?_
      refine lv_sipush (pc := 44) (v := 3000) hx hb d_Mo_take_44 (by decide) ?_
      refine lv_iload_n (pc := 47) hx hb d_Mo_take_47 rfl (lv_at hl 1 rfl) ?_
      refine lv_imul (pc := 48) hx hb d_Mo_take_48 ?_
      refine lv_iload (pc := 49) hx hb d_Mo_take_49 (lv_at hl 3 rfl) ?_
      refine lv_iadd (pc := 51) hx hb d_Mo_take_51 ?_
      refine lv_iload_n (pc := 52) hx hb d_Mo_take_52 rfl (lv_at hl 2 rfl) ?_
      refine lv_iadd (pc := 53) hx hb d_Mo_take_53 ?_
      refine u_iald (pc := 54) X V (X.fix rfl) rfl rfl h.1 d_Mo_take_54 ?_
      have h := h.2
      refine u_iast (pc := 55) X V (X.fix rfl) rfl rfl h.1 d_Mo_take_55 (fun I2 eI2 H locs V => ?_)
      have h := h.2 I2 eI2
      obtain ⟨v3, ev3⟩ : ∃ z : Int32, z = x4 + 1 := ⟨_, rfl⟩
      have h := h v3 ev3
      refine lv_iinc (pc := 56) (k := 3) (v := v3) (lv' := [(4, .int v3), (0, .ref (A 80)), (1, .int x1), (3, .int x3)]) hx hb d_Mo_take_56 hl rfl (by rw [ev3]; rfl) (by decide) rfl (fun ls hl => ?_)
      refine lv_goto (pc := 59) (tgt := 17) hx hb d_Mo_take_59 (by decide) ?_
      exact ih I2 R x1 x3 v3 H locs ls V (lv_sub hl [1, 2, 3, 0] rfl) h
def wp_Mo_take (I : UI) (R : UR) (x1 : Int32) (x2 : Int32) (x3 : Int32) (Q : UI → UR → Prop) : Prop :=
  vp_in x1 2 ∧ vp_in x1 2 ∧ ∀ I1 : UI, I1 = u2 I 82 x1.toNatClampNeg ((I 82 x1.toNatClampNeg) - x3) → (∃ n17 : Nat, wp_Mo_take_L17 Q n17 I1 R x1 x3 x2)
set_option maxHeartbeats 4000000 in
set_option maxRecDepth 100000 in
theorem c_Mo_take (l : Launch) (D : va_G) (cc : Nat → ClassId) (L : List Nat) (A : Nat → Nat) (J : Nat → Int64) (t16 t32 : Nat) (I : UI) (R : UR) (x1 : Int32) (x2 : Int32) (x3 : Int32) (Q : UI → UR → Prop) (h : wp_Mo_take I R x1 x2 x3 Q) : uMv l y_Mo_take (.code y_Mo_take prog_10_method_41_code 5 none) rm_Mo_take [.ref (A 80), .int x1, .int x2, .int x3] D cc L A J t16 t32 I R Q := by
  intro sz
  refine u_entry (by decide) (Nat.le_of_ble_eq_true rfl) (fun p e s m args below meth c hsz X V hr hlk ls hl => ?_)
  have X : uX p s m args c prog_10_method_41_code 5 "FrameFerryModel" D cc L A t16 t32 := X
  have hx := X.1
  have hb := X.2.1
  have hl : lv_has ls 5 [(0, .ref (A 80)), (1, .int x1), (2, .int x2), (3, .int x3)] := hl
  unfold wp_Mo_take at h
  generalize hH : s.heap = H at V ⊢
  generalize hlo : ([] : List Loc) = locs at V ⊢
  refine lv_aload_n (pc := 0) hx hb d_Mo_take_0 rfl (lv_at hl 0 rfl) ?_
  refine u_getr (pc := 1) (o' := 82) X V (X.fix rfl) rfl rfl f_Mo_13 rfl rfl d_Mo_take_1 ?_
  refine lv_iload_n (pc := 4) hx hb d_Mo_take_4 rfl (lv_at hl 1 rfl) ?_
  refine lv_aload_n (pc := 5) hx hb d_Mo_take_5 rfl (lv_at hl 0 rfl) ?_
  refine u_getr (pc := 6) (o' := 82) X V (X.fix rfl) rfl rfl f_Mo_13 rfl rfl d_Mo_take_6 ?_
  refine lv_iload_n (pc := 9) hx hb d_Mo_take_9 rfl (lv_at hl 1 rfl) ?_
  refine u_iald (pc := 10) X V (X.fix rfl) rfl rfl h.1 d_Mo_take_10 ?_
  have h := h.2
  refine lv_iload_n (pc := 11) hx hb d_Mo_take_11 rfl (lv_at hl 3 rfl) ?_
  refine lv_isub (pc := 12) hx hb d_Mo_take_12 ?_
  refine u_iast (pc := 13) X V (X.fix rfl) rfl rfl h.1 d_Mo_take_13 (fun I1 eI1 H locs V => ?_)
  have h := h.2 I1 eI1
  refine lv_iload_n (pc := 14) hx hb d_Mo_take_14 rfl (lv_at hl 2 rfl) ?_
  refine lv_istore (pc := 15) (lv' := [(4, .int x2), (0, .ref (A 80)), (1, .int x1), (2, .int x2), (3, .int x3)]) hx hb d_Mo_take_15 hl (by decide) rfl (fun ls hl => ?_)
  obtain ⟨n17, h⟩ := h
  exact j_Mo_take_17 X hr hlk hsz n17 I1 R x1 x3 x2 H locs ls V (lv_sub hl [1, 2, 4, 0] rfl) h
end G
