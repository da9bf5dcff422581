def YX11_init : zY := (⟨"ProperFollow", "<init>", "()V"⟩, prog_1_method_1_code, 2, none)
def YX12_init : zY := (⟨"ProperFollowModel", "<init>", "()V"⟩, prog_14_method_13_code, 2, none)
theorem dX12_init_0 : decode YX12_init.2.1 0 = .ok (.aload_n 0, 1) := by decide +kernel
theorem dX12_init_1 : decode YX12_init.2.1 1 = .ok (.invokespecial 27, 3) := by decide +kernel
theorem moX12_27 : Cond.methodLink "ProperFollowModel" 27 objectInit ∈ zWS := zWS_in (List.mem_of_getElem? (i := 1503) (by decide +kernel)) (by decide +kernel)
theorem dX12_init_4 : decode YX12_init.2.1 4 = .ok (.aload_n 0, 1) := by decide +kernel
theorem dX12_init_5 : decode YX12_init.2.1 5 = .ok (.sipush 940, 3) := by decide +kernel
theorem dX12_init_8 : decode YX12_init.2.1 8 = .ok (.newarray .byte, 2) := by decide +kernel
theorem dX12_init_10 : decode YX12_init.2.1 10 = .ok (.putfield 14, 3) := by decide +kernel
theorem fFX12_14 : zfldF "ProperFollowModel" 14 12 1 (.array .byte) := ⟨kR12, kT12, 53, kt12, rfl, ki12, by decide, fwX12_14, kk12, kn12, by decide +kernel, by decide +kernel, by decide +kernel⟩
theorem dX12_init_13 : decode YX12_init.2.1 13 = .ok (.aload_n 0, 1) := by decide +kernel
theorem dX12_init_14 : decode YX12_init.2.1 14 = .ok (.sipush 397, 3) := by decide +kernel
theorem dX12_init_17 : decode YX12_init.2.1 17 = .ok (.newarray .int, 2) := by decide +kernel
theorem dX12_init_19 : decode YX12_init.2.1 19 = .ok (.putfield 33, 3) := by decide +kernel
theorem fFX12_33 : zfldF "ProperFollowModel" 33 12 6 (.array .int) := ⟨kR12, kT12, 53, kt12, rfl, ki12, by decide, fwX12_33, kk12, kn12, by decide +kernel, by decide +kernel, by decide +kernel⟩
theorem dX12_init_22 : decode YX12_init.2.1 22 = .ok (.aload_n 0, 1) := by decide +kernel
theorem dX12_init_23 : decode YX12_init.2.1 23 = .ok (.bipush 89, 2) := by decide +kernel
theorem dX12_init_25 : decode YX12_init.2.1 25 = .ok (.newarray .int, 2) := by decide +kernel
theorem dX12_init_27 : decode YX12_init.2.1 27 = .ok (.putfield 37, 3) := by decide +kernel
theorem fFX12_37 : zfldF "ProperFollowModel" 37 12 7 (.array .int) := ⟨kR12, kT12, 53, kt12, rfl, ki12, by decide, fwX12_37, kk12, kn12, by decide +kernel, by decide +kernel, by decide +kernel⟩
theorem dX12_init_30 : decode YX12_init.2.1 30 = .ok (.aload_n 0, 1) := by decide +kernel
theorem dX12_init_31 : decode YX12_init.2.1 31 = .ok (.sipush 160, 3) := by decide +kernel
theorem ksipush_160 : (Int16.ofInt 160).toInt32 = 160 := by decide +kernel
theorem dX12_init_34 : decode YX12_init.2.1 34 = .ok (.newarray .int, 2) := by decide +kernel
theorem dX12_init_36 : decode YX12_init.2.1 36 = .ok (.putfield 40, 3) := by decide +kernel
theorem fFX12_40 : zfldF "ProperFollowModel" 40 12 8 (.array .int) := ⟨kR12, kT12, 53, kt12, rfl, ki12, by decide, fwX12_40, kk12, kn12, by decide +kernel, by decide +kernel, by decide +kernel⟩
theorem dX12_init_39 : decode YX12_init.2.1 39 = .ok (.aload_n 0, 1) := by decide +kernel
theorem dX12_init_40 : decode YX12_init.2.1 40 = .ok (.bipush 28, 2) := by decide +kernel
theorem kbipush_28 : (Int8.ofInt 28).toInt32 = 28 := by decide +kernel
theorem dX12_init_42 : decode YX12_init.2.1 42 = .ok (.newarray .long, 2) := by decide +kernel
theorem dX12_init_44 : decode YX12_init.2.1 44 = .ok (.putfield 43, 3) := by decide +kernel
theorem fFX12_43 : zfldF "ProperFollowModel" 43 12 9 (.array .long) := ⟨kR12, kT12, 53, kt12, rfl, ki12, by decide, fwX12_43, kk12, kn12, by decide +kernel, by decide +kernel, by decide +kernel⟩
theorem dX12_init_47 : decode YX12_init.2.1 47 = .ok (.aload_n 0, 1) := by decide +kernel
theorem dX12_init_48 : decode YX12_init.2.1 48 = .ok (.bipush 22, 2) := by decide +kernel
theorem dX12_init_50 : decode YX12_init.2.1 50 = .ok (.newarray .long, 2) := by decide +kernel
theorem dX12_init_52 : decode YX12_init.2.1 52 = .ok (.putfield 47, 3) := by decide +kernel
theorem fFX12_47 : zfldF "ProperFollowModel" 47 12 10 (.array .long) := ⟨kR12, kT12, 53, kt12, rfl, ki12, by decide, fwX12_47, kk12, kn12, by decide +kernel, by decide +kernel, by decide +kernel⟩
theorem dX12_init_55 : decode YX12_init.2.1 55 = .ok (.aload_n 0, 1) := by decide +kernel
theorem dX12_init_56 : decode YX12_init.2.1 56 = .ok (.bipush 64, 2) := by decide +kernel
theorem dX12_init_58 : decode YX12_init.2.1 58 = .ok (.newarray .int, 2) := by decide +kernel
theorem dX12_init_60 : decode YX12_init.2.1 60 = .ok (.putfield 50, 3) := by decide +kernel
theorem fFX12_50 : zfldF "ProperFollowModel" 50 12 20 (.array .int) := ⟨kR12, kT12, 53, kt12, rfl, ki12, by decide, fwX12_50, kk12, kn12, by decide +kernel, by decide +kernel, by decide +kernel⟩
theorem dX12_init_63 : decode YX12_init.2.1 63 = .ok (.aload_n 0, 1) := by decide +kernel
theorem dX12_init_64 : decode YX12_init.2.1 64 = .ok (.bipush 6, 2) := by decide +kernel
theorem dX12_init_66 : decode YX12_init.2.1 66 = .ok (.newarray .int, 2) := by decide +kernel
theorem dX12_init_68 : decode YX12_init.2.1 68 = .ok (.putfield 53, 3) := by decide +kernel
theorem fFX12_53 : zfldF "ProperFollowModel" 53 12 21 (.array .int) := ⟨kR12, kT12, 53, kt12, rfl, ki12, by decide, fwX12_53, kk12, kn12, by decide +kernel, by decide +kernel, by decide +kernel⟩
theorem dX12_init_71 : decode YX12_init.2.1 71 = .ok (.aload_n 0, 1) := by decide +kernel
theorem dX12_init_72 : decode YX12_init.2.1 72 = .ok (.sipush 1016, 3) := by decide +kernel
theorem ksipush_1016 : (Int16.ofInt 1016).toInt32 = 1016 := by decide +kernel
theorem dX12_init_75 : decode YX12_init.2.1 75 = .ok (.newarray .int, 2) := by decide +kernel
theorem dX12_init_77 : decode YX12_init.2.1 77 = .ok (.putfield 56, 3) := by decide +kernel
theorem fFX12_56 : zfldF "ProperFollowModel" 56 12 22 (.array .int) := ⟨kR12, kT12, 53, kt12, rfl, ki12, by decide, fwX12_56, kk12, kn12, by decide +kernel, by decide +kernel, by decide +kernel⟩
theorem dX12_init_80 : decode YX12_init.2.1 80 = .ok (.aload_n 0, 1) := by decide +kernel
theorem dX12_init_81 : decode YX12_init.2.1 81 = .ok (.bipush 127, 2) := by decide +kernel
theorem dX12_init_83 : decode YX12_init.2.1 83 = .ok (.newarray .int, 2) := by decide +kernel
theorem dX12_init_85 : decode YX12_init.2.1 85 = .ok (.putfield 59, 3) := by decide +kernel
theorem fFX12_59 : zfldF "ProperFollowModel" 59 12 23 (.array .int) := ⟨kR12, kT12, 53, kt12, rfl, ki12, by decide, fwX12_59, kk12, kn12, by decide +kernel, by decide +kernel, by decide +kernel⟩
theorem dX12_init_88 : decode YX12_init.2.1 88 = .ok (.aload_n 0, 1) := by decide +kernel
theorem dX12_init_89 : decode YX12_init.2.1 89 = .ok (.bipush 8, 2) := by decide +kernel
theorem dX12_init_91 : decode YX12_init.2.1 91 = .ok (.newarray .int, 2) := by decide +kernel
theorem dX12_init_93 : decode YX12_init.2.1 93 = .ok (.putfield 62, 3) := by decide +kernel
theorem fFX12_62 : zfldF "ProperFollowModel" 62 12 29 (.array .int) := ⟨kR12, kT12, 53, kt12, rfl, ki12, by decide, fwX12_62, kk12, kn12, by decide +kernel, by decide +kernel, by decide +kernel⟩
theorem dX12_init_96 : decode YX12_init.2.1 96 = .ok (.aload_n 0, 1) := by decide +kernel
theorem dX12_init_97 : decode YX12_init.2.1 97 = .ok (.iconst (-1), 1) := by decide +kernel
theorem dX12_init_98 : decode YX12_init.2.1 98 = .ok (.putfield 65, 3) := by decide +kernel
theorem dX12_init_101 : decode YX12_init.2.1 101 = .ok (.aload_n 0, 1) := by decide +kernel
theorem dX12_init_102 : decode YX12_init.2.1 102 = .ok (.sipush 448, 3) := by decide +kernel
theorem ksipush_448 : (Int16.ofInt 448).toInt32 = 448 := by decide +kernel
theorem dX12_init_105 : decode YX12_init.2.1 105 = .ok (.newarray .int, 2) := by decide +kernel
theorem dX12_init_107 : decode YX12_init.2.1 107 = .ok (.putfield 68, 3) := by decide +kernel
theorem fFX12_68 : zfldF "ProperFollowModel" 68 12 33 (.array .int) := ⟨kR12, kT12, 53, kt12, rfl, ki12, by decide, fwX12_68, kk12, kn12, by decide +kernel, by decide +kernel, by decide +kernel⟩
theorem dX12_init_110 : decode YX12_init.2.1 110 = .ok (.aload_n 0, 1) := by decide +kernel
theorem dX12_init_111 : decode YX12_init.2.1 111 = .ok (.bipush 6, 2) := by decide +kernel
theorem dX12_init_113 : decode YX12_init.2.1 113 = .ok (.newarray .int, 2) := by decide +kernel
theorem dX12_init_115 : decode YX12_init.2.1 115 = .ok (.putfield 71, 3) := by decide +kernel
theorem fFX12_71 : zfldF "ProperFollowModel" 71 12 34 (.array .int) := ⟨kR12, kT12, 53, kt12, rfl, ki12, by decide, fwX12_71, kk12, kn12, by decide +kernel, by decide +kernel, by decide +kernel⟩
theorem dX12_init_118 : decode YX12_init.2.1 118 = .ok (.aload_n 0, 1) := by decide +kernel
theorem dX12_init_119 : decode YX12_init.2.1 119 = .ok (.iconst (-1), 1) := by decide +kernel
theorem dX12_init_120 : decode YX12_init.2.1 120 = .ok (.putfield 74, 3) := by decide +kernel
theorem dX12_init_123 : decode YX12_init.2.1 123 = .ok (.aload_n 0, 1) := by decide +kernel
theorem dX12_init_124 : decode YX12_init.2.1 124 = .ok (.bipush 48, 2) := by decide +kernel
theorem dX12_init_126 : decode YX12_init.2.1 126 = .ok (.newarray .byte, 2) := by decide +kernel
theorem dX12_init_128 : decode YX12_init.2.1 128 = .ok (.putfield 77, 3) := by decide +kernel
theorem fFX12_77 : zfldF "ProperFollowModel" 77 12 37 (.array .byte) := ⟨kR12, kT12, 53, kt12, rfl, ki12, by decide, fwX12_77, kk12, kn12, by decide +kernel, by decide +kernel, by decide +kernel⟩
theorem dX12_init_131 : decode YX12_init.2.1 131 = .ok (.aload_n 0, 1) := by decide +kernel
theorem dX12_init_132 : decode YX12_init.2.1 132 = .ok (.iconst 4, 1) := by decide +kernel
theorem dX12_init_133 : decode YX12_init.2.1 133 = .ok (.newarray .int, 2) := by decide +kernel
theorem dX12_init_135 : decode YX12_init.2.1 135 = .ok (.putfield 80, 3) := by decide +kernel
theorem fFX12_80 : zfldF "ProperFollowModel" 80 12 41 (.array .int) := ⟨kR12, kT12, 53, kt12, rfl, ki12, by decide, fwX12_80, kk12, kn12, by decide +kernel, by decide +kernel, by decide +kernel⟩
theorem dX12_init_138 : decode YX12_init.2.1 138 = .ok (.aload_n 0, 1) := by decide +kernel
theorem dX12_init_139 : decode YX12_init.2.1 139 = .ok (.bipush 45, 2) := by decide +kernel
theorem kbipush_45 : (Int8.ofInt 45).toInt32 = 45 := by decide +kernel
theorem dX12_init_141 : decode YX12_init.2.1 141 = .ok (.newarray .int, 2) := by decide +kernel
theorem dX12_init_143 : decode YX12_init.2.1 143 = .ok (.putfield 83, 3) := by decide +kernel
theorem fFX12_83 : zfldF "ProperFollowModel" 83 12 43 (.array .int) := ⟨kR12, kT12, 53, kt12, rfl, ki12, by decide, fwX12_83, kk12, kn12, by decide +kernel, by decide +kernel, by decide +kernel⟩
theorem dX12_init_146 : decode YX12_init.2.1 146 = .ok (.aload_n 0, 1) := by decide +kernel
theorem dX12_init_147 : decode YX12_init.2.1 147 = .ok (.bipush 45, 2) := by decide +kernel
theorem dX12_init_149 : decode YX12_init.2.1 149 = .ok (.newarray .boolean, 2) := by decide +kernel
theorem dX12_init_151 : decode YX12_init.2.1 151 = .ok (.putfield 86, 3) := by decide +kernel
theorem fFX12_86 : zfldF "ProperFollowModel" 86 12 49 (.array .boolean) := ⟨kR12, kT12, 53, kt12, rfl, ki12, by decide, fwX12_86, kk12, kn12, by decide +kernel, by decide +kernel, by decide +kernel⟩
theorem dX12_init_154 : decode YX12_init.2.1 154 = .ok (.aload_n 0, 1) := by decide +kernel
theorem dX12_init_155 : decode YX12_init.2.1 155 = .ok (.sipush 794, 3) := by decide +kernel
theorem ksipush_794 : (Int16.ofInt 794).toInt32 = 794 := by decide +kernel
theorem dX12_init_158 : decode YX12_init.2.1 158 = .ok (.newarray .int, 2) := by decide +kernel
theorem dX12_init_160 : decode YX12_init.2.1 160 = .ok (.putfield 90, 3) := by decide +kernel
theorem fFX12_90 : zfldF "ProperFollowModel" 90 12 50 (.array .int) := ⟨kR12, kT12, 53, kt12, rfl, ki12, by decide, fwX12_90, kk12, kn12, by decide +kernel, by decide +kernel, by decide +kernel⟩
theorem dX12_init_163 : decode YX12_init.2.1 163 = .ok (.aload_n 0, 1) := by decide +kernel
theorem dX12_init_164 : decode YX12_init.2.1 164 = .ok (.bipush 28, 2) := by decide +kernel
theorem dX12_init_166 : decode YX12_init.2.1 166 = .ok (.newarray .long, 2) := by decide +kernel
theorem dX12_init_168 : decode YX12_init.2.1 168 = .ok (.putfield 93, 3) := by decide +kernel
theorem fFX12_93 : zfldF "ProperFollowModel" 93 12 51 (.array .long) := ⟨kR12, kT12, 53, kt12, rfl, ki12, by decide, fwX12_93, kk12, kn12, by decide +kernel, by decide +kernel, by decide +kernel⟩
theorem dX12_init_171 : decode YX12_init.2.1 171 = .ok (.aload_n 0, 1) := by decide +kernel
theorem dX12_init_172 : decode YX12_init.2.1 172 = .ok (.iconst 2, 1) := by decide +kernel
theorem dX12_init_173 : decode YX12_init.2.1 173 = .ok (.newarray .boolean, 2) := by decide +kernel
theorem dX12_init_175 : decode YX12_init.2.1 175 = .ok (.putfield 96, 3) := by decide +kernel
theorem fFX12_96 : zfldF "ProperFollowModel" 96 12 52 (.array .boolean) := ⟨kR12, kT12, 53, kt12, rfl, ki12, by decide, fwX12_96, kk12, kn12, by decide +kernel, by decide +kernel, by decide +kernel⟩
theorem dX12_init_178 : decode YX12_init.2.1 178 = .ok (.aload_n 0, 1) := by decide +kernel
theorem dX12_init_179 : decode YX12_init.2.1 179 = .ok (.getfield 47, 3) := by decide +kernel
theorem dX12_init_182 : decode YX12_init.2.1 182 = .ok (.iconst 0, 1) := by decide +kernel
theorem dX12_init_183 : decode YX12_init.2.1 183 = .ok (.ldc2_w 99, 3) := by decide +kernel
theorem dX12_init_186 : decode YX12_init.2.1 186 = .ok (.lastore, 1) := by decide +kernel
theorem dX12_init_187 : decode YX12_init.2.1 187 = .ok (.aload_n 0, 1) := by decide +kernel
theorem dX12_init_188 : decode YX12_init.2.1 188 = .ok (.getfield 47, 3) := by decide +kernel
theorem dX12_init_191 : decode YX12_init.2.1 191 = .ok (.iconst 1, 1) := by decide +kernel
theorem dX12_init_192 : decode YX12_init.2.1 192 = .ok (.ldc2_w 101, 3) := by decide +kernel
theorem dX12_init_195 : decode YX12_init.2.1 195 = .ok (.lastore, 1) := by decide +kernel
theorem dX12_init_196 : decode YX12_init.2.1 196 = .ok (.aload_n 0, 1) := by decide +kernel
theorem dX12_init_197 : decode YX12_init.2.1 197 = .ok (.getfield 47, 3) := by decide +kernel
theorem dX12_init_200 : decode YX12_init.2.1 200 = .ok (.iconst 2, 1) := by decide +kernel
theorem dX12_init_201 : decode YX12_init.2.1 201 = .ok (.ldc2_w 103, 3) := by decide +kernel
theorem dX12_init_204 : decode YX12_init.2.1 204 = .ok (.lastore, 1) := by decide +kernel
theorem dX12_init_205 : decode YX12_init.2.1 205 = .ok (.aload_n 0, 1) := by decide +kernel
theorem dX12_init_206 : decode YX12_init.2.1 206 = .ok (.getfield 47, 3) := by decide +kernel
theorem dX12_init_209 : decode YX12_init.2.1 209 = .ok (.iconst 3, 1) := by decide +kernel
theorem dX12_init_210 : decode YX12_init.2.1 210 = .ok (.ldc2_w 105, 3) := by decide +kernel
theorem dX12_init_213 : decode YX12_init.2.1 213 = .ok (.lastore, 1) := by decide +kernel
theorem dX12_init_214 : decode YX12_init.2.1 214 = .ok (.aload_n 0, 1) := by decide +kernel
theorem dX12_init_215 : decode YX12_init.2.1 215 = .ok (.getfield 47, 3) := by decide +kernel
theorem dX12_init_218 : decode YX12_init.2.1 218 = .ok (.iconst 4, 1) := by decide +kernel
theorem dX12_init_219 : decode YX12_init.2.1 219 = .ok (.ldc2_w 107, 3) := by decide +kernel
theorem dX12_init_222 : decode YX12_init.2.1 222 = .ok (.lastore, 1) := by decide +kernel
theorem dX12_init_223 : decode YX12_init.2.1 223 = .ok (.aload_n 0, 1) := by decide +kernel
theorem dX12_init_224 : decode YX12_init.2.1 224 = .ok (.getfield 47, 3) := by decide +kernel
theorem dX12_init_227 : decode YX12_init.2.1 227 = .ok (.iconst 5, 1) := by decide +kernel
theorem dX12_init_228 : decode YX12_init.2.1 228 = .ok (.ldc2_w 109, 3) := by decide +kernel
theorem dX12_init_231 : decode YX12_init.2.1 231 = .ok (.lastore, 1) := by decide +kernel
theorem dX12_init_232 : decode YX12_init.2.1 232 = .ok (.aload_n 0, 1) := by decide +kernel
theorem dX12_init_233 : decode YX12_init.2.1 233 = .ok (.getfield 47, 3) := by decide +kernel
theorem dX12_init_236 : decode YX12_init.2.1 236 = .ok (.bipush 6, 2) := by decide +kernel
theorem dX12_init_238 : decode YX12_init.2.1 238 = .ok (.ldc2_w 111, 3) := by decide +kernel
theorem dX12_init_241 : decode YX12_init.2.1 241 = .ok (.lastore, 1) := by decide +kernel
theorem dX12_init_242 : decode YX12_init.2.1 242 = .ok (.aload_n 0, 1) := by decide +kernel
theorem dX12_init_243 : decode YX12_init.2.1 243 = .ok (.getfield 47, 3) := by decide +kernel
theorem dX12_init_246 : decode YX12_init.2.1 246 = .ok (.bipush 7, 2) := by decide +kernel
theorem dX12_init_248 : decode YX12_init.2.1 248 = .ok (.ldc2_w 113, 3) := by decide +kernel
theorem dX12_init_251 : decode YX12_init.2.1 251 = .ok (.lastore, 1) := by decide +kernel
theorem dX12_init_252 : decode YX12_init.2.1 252 = .ok (.aload_n 0, 1) := by decide +kernel
theorem dX12_init_253 : decode YX12_init.2.1 253 = .ok (.getfield 47, 3) := by decide +kernel
theorem dX12_init_256 : decode YX12_init.2.1 256 = .ok (.bipush 8, 2) := by decide +kernel
theorem dX12_init_258 : decode YX12_init.2.1 258 = .ok (.ldc2_w 115, 3) := by decide +kernel
theorem dX12_init_261 : decode YX12_init.2.1 261 = .ok (.lastore, 1) := by decide +kernel
theorem dX12_init_262 : decode YX12_init.2.1 262 = .ok (.aload_n 0, 1) := by decide +kernel
theorem dX12_init_263 : decode YX12_init.2.1 263 = .ok (.getfield 47, 3) := by decide +kernel
theorem dX12_init_266 : decode YX12_init.2.1 266 = .ok (.bipush 9, 2) := by decide +kernel
theorem dX12_init_268 : decode YX12_init.2.1 268 = .ok (.ldc2_w 117, 3) := by decide +kernel
theorem dX12_init_271 : decode YX12_init.2.1 271 = .ok (.lastore, 1) := by decide +kernel
theorem dX12_init_272 : decode YX12_init.2.1 272 = .ok (.aload_n 0, 1) := by decide +kernel
theorem dX12_init_273 : decode YX12_init.2.1 273 = .ok (.getfield 47, 3) := by decide +kernel
theorem dX12_init_276 : decode YX12_init.2.1 276 = .ok (.bipush 10, 2) := by decide +kernel
theorem dX12_init_278 : decode YX12_init.2.1 278 = .ok (.ldc2_w 119, 3) := by decide +kernel
theorem dX12_init_281 : decode YX12_init.2.1 281 = .ok (.lastore, 1) := by decide +kernel
theorem dX12_init_282 : decode YX12_init.2.1 282 = .ok (.aload_n 0, 1) := by decide +kernel
theorem dX12_init_283 : decode YX12_init.2.1 283 = .ok (.getfield 47, 3) := by decide +kernel
theorem dX12_init_286 : decode YX12_init.2.1 286 = .ok (.bipush 11, 2) := by decide +kernel
theorem dX12_init_288 : decode YX12_init.2.1 288 = .ok (.ldc2_w 121, 3) := by decide +kernel
theorem dX12_init_291 : decode YX12_init.2.1 291 = .ok (.lastore, 1) := by decide +kernel
theorem dX12_init_292 : decode YX12_init.2.1 292 = .ok (.aload_n 0, 1) := by decide +kernel
theorem dX12_init_293 : decode YX12_init.2.1 293 = .ok (.getfield 47, 3) := by decide +kernel
theorem dX12_init_296 : decode YX12_init.2.1 296 = .ok (.bipush 12, 2) := by decide +kernel
theorem dX12_init_298 : decode YX12_init.2.1 298 = .ok (.ldc2_w 123, 3) := by decide +kernel
theorem dX12_init_301 : decode YX12_init.2.1 301 = .ok (.lastore, 1) := by decide +kernel
theorem dX12_init_302 : decode YX12_init.2.1 302 = .ok (.aload_n 0, 1) := by decide +kernel
theorem dX12_init_303 : decode YX12_init.2.1 303 = .ok (.getfield 47, 3) := by decide +kernel
theorem dX12_init_306 : decode YX12_init.2.1 306 = .ok (.bipush 13, 2) := by decide +kernel
theorem kbipush_13 : (Int8.ofInt 13).toInt32 = 13 := by decide +kernel
theorem dX12_init_308 : decode YX12_init.2.1 308 = .ok (.ldc2_w 125, 3) := by decide +kernel
theorem dX12_init_311 : decode YX12_init.2.1 311 = .ok (.lastore, 1) := by decide +kernel
theorem dX12_init_312 : decode YX12_init.2.1 312 = .ok (.aload_n 0, 1) := by decide +kernel
theorem dX12_init_313 : decode YX12_init.2.1 313 = .ok (.getfield 47, 3) := by decide +kernel
theorem dX12_init_316 : decode YX12_init.2.1 316 = .ok (.bipush 14, 2) := by decide +kernel
theorem dX12_init_318 : decode YX12_init.2.1 318 = .ok (.ldc2_w 127, 3) := by decide +kernel
theorem dX12_init_321 : decode YX12_init.2.1 321 = .ok (.lastore, 1) := by decide +kernel
theorem dX12_init_322 : decode YX12_init.2.1 322 = .ok (.aload_n 0, 1) := by decide +kernel
theorem dX12_init_323 : decode YX12_init.2.1 323 = .ok (.getfield 47, 3) := by decide +kernel
theorem dX12_init_326 : decode YX12_init.2.1 326 = .ok (.bipush 15, 2) := by decide +kernel
theorem kbipush_15 : (Int8.ofInt 15).toInt32 = 15 := by decide +kernel
theorem dX12_init_328 : decode YX12_init.2.1 328 = .ok (.ldc2_w 129, 3) := by decide +kernel
theorem dX12_init_331 : decode YX12_init.2.1 331 = .ok (.lastore, 1) := by decide +kernel
theorem dX12_init_332 : decode YX12_init.2.1 332 = .ok (.aload_n 0, 1) := by decide +kernel
theorem dX12_init_333 : decode YX12_init.2.1 333 = .ok (.getfield 47, 3) := by decide +kernel
theorem dX12_init_336 : decode YX12_init.2.1 336 = .ok (.bipush 16, 2) := by decide +kernel
theorem dX12_init_338 : decode YX12_init.2.1 338 = .ok (.ldc2_w 131, 3) := by decide +kernel
theorem dX12_init_341 : decode YX12_init.2.1 341 = .ok (.lastore, 1) := by decide +kernel
theorem dX12_init_342 : decode YX12_init.2.1 342 = .ok (.aload_n 0, 1) := by decide +kernel
theorem dX12_init_343 : decode YX12_init.2.1 343 = .ok (.getfield 47, 3) := by decide +kernel
theorem dX12_init_346 : decode YX12_init.2.1 346 = .ok (.bipush 17, 2) := by decide +kernel
theorem dX12_init_348 : decode YX12_init.2.1 348 = .ok (.ldc2_w 133, 3) := by decide +kernel
theorem dX12_init_351 : decode YX12_init.2.1 351 = .ok (.lastore, 1) := by decide +kernel
theorem dX12_init_352 : decode YX12_init.2.1 352 = .ok (.aload_n 0, 1) := by decide +kernel
theorem dX12_init_353 : decode YX12_init.2.1 353 = .ok (.getfield 47, 3) := by decide +kernel
theorem dX12_init_356 : decode YX12_init.2.1 356 = .ok (.bipush 18, 2) := by decide +kernel
theorem dX12_init_358 : decode YX12_init.2.1 358 = .ok (.ldc2_w 135, 3) := by decide +kernel
theorem dX12_init_361 : decode YX12_init.2.1 361 = .ok (.lastore, 1) := by decide +kernel
theorem dX12_init_362 : decode YX12_init.2.1 362 = .ok (.aload_n 0, 1) := by decide +kernel
theorem dX12_init_363 : decode YX12_init.2.1 363 = .ok (.getfield 47, 3) := by decide +kernel
theorem dX12_init_366 : decode YX12_init.2.1 366 = .ok (.bipush 19, 2) := by decide +kernel
theorem kbipush_19 : (Int8.ofInt 19).toInt32 = 19 := by decide +kernel
theorem dX12_init_368 : decode YX12_init.2.1 368 = .ok (.ldc2_w 137, 3) := by decide +kernel
theorem dX12_init_371 : decode YX12_init.2.1 371 = .ok (.lastore, 1) := by decide +kernel
theorem dX12_init_372 : decode YX12_init.2.1 372 = .ok (.aload_n 0, 1) := by decide +kernel
theorem dX12_init_373 : decode YX12_init.2.1 373 = .ok (.getfield 47, 3) := by decide +kernel
theorem dX12_init_376 : decode YX12_init.2.1 376 = .ok (.bipush 20, 2) := by decide +kernel
theorem dX12_init_378 : decode YX12_init.2.1 378 = .ok (.ldc2_w 139, 3) := by decide +kernel
theorem dX12_init_381 : decode YX12_init.2.1 381 = .ok (.lastore, 1) := by decide +kernel
theorem dX12_init_382 : decode YX12_init.2.1 382 = .ok (.aload_n 0, 1) := by decide +kernel
theorem dX12_init_383 : decode YX12_init.2.1 383 = .ok (.getfield 47, 3) := by decide +kernel
theorem dX12_init_386 : decode YX12_init.2.1 386 = .ok (.bipush 21, 2) := by decide +kernel
theorem dX12_init_388 : decode YX12_init.2.1 388 = .ok (.ldc2_w 141, 3) := by decide +kernel
theorem dX12_init_391 : decode YX12_init.2.1 391 = .ok (.lastore, 1) := by decide +kernel
theorem dX12_init_392 : decode YX12_init.2.1 392 = .ok (.aload_n 0, 1) := by decide +kernel
theorem dX12_init_393 : decode YX12_init.2.1 393 = .ok (.invokevirtual 143, 3) := by decide +kernel
theorem dX12_init_396 : decode YX12_init.2.1 396 = .ok (.iconst 0, 1) := by decide +kernel
theorem dX12_init_397 : decode YX12_init.2.1 397 = .ok (.istore_n 1, 1) := by decide +kernel
theorem dX12_init_398 : decode YX12_init.2.1 398 = .ok (.iload_n 1, 1) := by decide +kernel
theorem dX12_init_399 : decode YX12_init.2.1 399 = .ok (.bipush 89, 2) := by decide +kernel
theorem dX12_init_401 : decode YX12_init.2.1 401 = .ok (.if_icmp .ge 21, 3) := by decide +kernel
theorem dX12_init_422 : decode YX12_init.2.1 422 = .ok (.return_, 1) := by decide +kernel
theorem dX12_init_404 : decode YX12_init.2.1 404 = .ok (.aload_n 0, 1) := by decide +kernel
theorem dX12_init_405 : decode YX12_init.2.1 405 = .ok (.getfield 33, 3) := by decide +kernel
theorem dX12_init_408 : decode YX12_init.2.1 408 = .ok (.iload_n 1, 1) := by decide +kernel
theorem dX12_init_409 : decode YX12_init.2.1 409 = .ok (.aload_n 0, 1) := by decide +kernel
theorem dX12_init_410 : decode YX12_init.2.1 410 = .ok (.getfield 37, 3) := by decide +kernel
theorem dX12_init_413 : decode YX12_init.2.1 413 = .ok (.iload_n 1, 1) := by decide +kernel
theorem dX12_init_414 : decode YX12_init.2.1 414 = .ok (.iaload, 1) := by decide +kernel
theorem dX12_init_415 : decode YX12_init.2.1 415 = .ok (.iastore, 1) := by decide +kernel
theorem dX12_init_416 : decode YX12_init.2.1 416 = .ok (.iinc 1 1, 3) := by decide +kernel
theorem dX12_init_419 : decode YX12_init.2.1 419 = .ok (.goto (-21), 3) := by decide +kernel
theorem dX11_init_0 : decode YX11_init.2.1 0 = .ok (.aload_n 0, 1) := by decide +kernel
theorem dX11_init_1 : decode YX11_init.2.1 1 = .ok (.invokespecial 1, 3) := by decide +kernel
theorem moX11_1 : Cond.methodLink "ProperFollow" 1 objectInit ∈ zWS := zWS_in (List.mem_of_getElem? (i := 145) (by decide +kernel)) (by decide +kernel)
theorem dX11_init_4 : decode YX11_init.2.1 4 = .ok (.aload_n 0, 1) := by decide +kernel
theorem dX11_init_5 : decode YX11_init.2.1 5 = .ok (.new 7, 3) := by decide +kernel
theorem cwX11_7 : Cond.classLink "ProperFollow" 7 "ProperFollow$Tape" ∈ zWS := zWS_in (List.mem_of_getElem? (i := 148) (by decide +kernel)) (by decide +kernel)
theorem wsX10 : Cond.instantiable "ProperFollow$Tape" 2 ∈ zWS := zWS_in (List.mem_of_getElem? (i := 149) (by decide +kernel)) (by decide +kernel)
theorem df10 : ∀ j, j < 2 → defaultValue (kt10 j) = vp_V [.null, .int 0] j := fun j hj => match j, hj with
  | 0, _ => rfl
  | 1, _ => rfl
  | k + 2, h => absurd h (by omega)
theorem dX11_init_8 : decode YX11_init.2.1 8 = .ok (.dup, 1) := by decide +kernel
theorem dX11_init_9 : decode YX11_init.2.1 9 = .ok (.invokespecial 9, 3) := by decide +kernel
theorem lcX10_init : zlk YX10_init 0 := ⟨wi_X10, zWS_in (List.mem_of_getElem? (i := 152) (by decide +kernel)) (by decide +kernel), by decide, by decide, by decide +kernel, by decide⟩
theorem imX10_init : Cond.instanceMethod YX10_init.1 ∈ zWS := zWS_in (List.mem_of_getElem? (i := 151) (by decide +kernel)) (by decide +kernel)
theorem nlX11_9 : ("ProperFollow", 9, (⟨"ProperFollow$Tape", "<init>", "()V"⟩ : MethodName), "ProperFollow") ∈ zNW := List.mem_of_getElem? (i := 0) (by decide +kernel)
theorem dX11_init_12 : decode YX11_init.2.1 12 = .ok (.putfield 10, 3) := by decide +kernel
theorem fFX11_10 : zfldF "ProperFollow" 10 11 0 (.object "ProperFollow$Tape") := ⟨kR11, kT11, 20, kt11, rfl, ki11, by decide, fwX11_10, kk11, kn11, by decide +kernel, by decide +kernel, by decide +kernel⟩
theorem dX11_init_15 : decode YX11_init.2.1 15 = .ok (.aload_n 0, 1) := by decide +kernel
theorem dX11_init_16 : decode YX11_init.2.1 16 = .ok (.new 16, 3) := by decide +kernel
theorem cwX11_16 : Cond.classLink "ProperFollow" 16 "ProperFollow$Reader" ∈ zWS := zWS_in (List.mem_of_getElem? (i := 162) (by decide +kernel)) (by decide +kernel)
theorem wsX8 : Cond.instantiable "ProperFollow$Reader" 9 ∈ zWS := zWS_in (List.mem_of_getElem? (i := 163) (by decide +kernel)) (by decide +kernel)
theorem df8 : ∀ j, j < 9 → defaultValue (kt8 j) = vp_V [.null, .null, .int 0, .int 0, .int 0, .int 0, .long 0, .int 0, .int 0] j := fun j hj => match j, hj with
  | 0, _ => rfl
  | 1, _ => rfl
  | 2, _ => rfl
  | 3, _ => rfl
  | 4, _ => rfl
  | 5, _ => rfl
  | 6, _ => rfl
  | 7, _ => rfl
  | 8, _ => rfl
  | k + 9, h => absurd h (by omega)
theorem dX11_init_19 : decode YX11_init.2.1 19 = .ok (.dup, 1) := by decide +kernel
theorem dX11_init_20 : decode YX11_init.2.1 20 = .ok (.aload_n 0, 1) := by decide +kernel
theorem dX11_init_21 : decode YX11_init.2.1 21 = .ok (.getfield 10, 3) := by decide +kernel
theorem dX11_init_24 : decode YX11_init.2.1 24 = .ok (.invokespecial 18, 3) := by decide +kernel
theorem lcX8_init : zlk YX8_init 1 := ⟨wi_X8, zWS_in (List.mem_of_getElem? (i := 166) (by decide +kernel)) (by decide +kernel), by decide, by decide, by decide +kernel, by decide⟩
theorem imX8_init : Cond.instanceMethod YX8_init.1 ∈ zWS := zWS_in (List.mem_of_getElem? (i := 165) (by decide +kernel)) (by decide +kernel)
theorem mlX11_18 : Cond.methodLink "ProperFollow" 18 ⟨"ProperFollow$Reader", "<init>", "(LProperFollow$Tape;)V"⟩ ∈ zWS := zWS_in (List.mem_of_getElem? (i := 164) (by decide +kernel)) (by decide +kernel)
theorem dX11_init_27 : decode YX11_init.2.1 27 = .ok (.putfield 21, 3) := by decide +kernel
theorem fFX11_21 : zfldF "ProperFollow" 21 11 1 (.object "ProperFollow$Reader") := ⟨kR11, kT11, 20, kt11, rfl, ki11, by decide, fwX11_21, kk11, kn11, by decide +kernel, by decide +kernel, by decide +kernel⟩
theorem dX11_init_30 : decode YX11_init.2.1 30 = .ok (.aload_n 0, 1) := by decide +kernel
theorem dX11_init_31 : decode YX11_init.2.1 31 = .ok (.new 25, 3) := by decide +kernel
theorem cwX11_25 : Cond.classLink "ProperFollow" 25 "ProperFollow$Plan" ∈ zWS := zWS_in (List.mem_of_getElem? (i := 254) (by decide +kernel)) (by decide +kernel)
theorem dX11_init_34 : decode YX11_init.2.1 34 = .ok (.dup, 1) := by decide +kernel
theorem dX11_init_35 : decode YX11_init.2.1 35 = .ok (.invokespecial 27, 3) := by decide +kernel
theorem nlX11_27 : ("ProperFollow", 27, (⟨"ProperFollow$Plan", "<init>", "()V"⟩ : MethodName), "ProperFollow") ∈ zNW := List.mem_of_getElem? (i := 1) (by decide +kernel)
theorem dX11_init_38 : decode YX11_init.2.1 38 = .ok (.putfield 28, 3) := by decide +kernel
theorem fFX11_28 : zfldF "ProperFollow" 28 11 2 (.object "ProperFollow$Plan") := ⟨kR11, kT11, 20, kt11, rfl, ki11, by decide, fwX11_28, kk11, kn11, by decide +kernel, by decide +kernel, by decide +kernel⟩
theorem dX11_init_41 : decode YX11_init.2.1 41 = .ok (.aload_n 0, 1) := by decide +kernel
theorem dX11_init_42 : decode YX11_init.2.1 42 = .ok (.new 25, 3) := by decide +kernel
theorem dX11_init_45 : decode YX11_init.2.1 45 = .ok (.dup, 1) := by decide +kernel
theorem dX11_init_46 : decode YX11_init.2.1 46 = .ok (.invokespecial 27, 3) := by decide +kernel
theorem dX11_init_49 : decode YX11_init.2.1 49 = .ok (.putfield 32, 3) := by decide +kernel
theorem fFX11_32 : zfldF "ProperFollow" 32 11 3 (.object "ProperFollow$Plan") := ⟨kR11, kT11, 20, kt11, rfl, ki11, by decide, fwX11_32, kk11, kn11, by decide +kernel, by decide +kernel, by decide +kernel⟩
theorem dX11_init_52 : decode YX11_init.2.1 52 = .ok (.aload_n 0, 1) := by decide +kernel
theorem dX11_init_53 : decode YX11_init.2.1 53 = .ok (.new 35, 3) := by decide +kernel
theorem cwX11_35 : Cond.classLink "ProperFollow" 35 "ProperFollow$Day" ∈ zWS := zWS_in (List.mem_of_getElem? (i := 282) (by decide +kernel)) (by decide +kernel)
theorem dX11_init_56 : decode YX11_init.2.1 56 = .ok (.dup, 1) := by decide +kernel
theorem dX11_init_57 : decode YX11_init.2.1 57 = .ok (.invokespecial 37, 3) := by decide +kernel
theorem mlX11_37 : Cond.methodLink "ProperFollow" 37 ⟨"ProperFollow$Day", "<init>", "()V"⟩ ∈ zWS := zWS_in (List.mem_of_getElem? (i := 284) (by decide +kernel)) (by decide +kernel)
theorem dX11_init_60 : decode YX11_init.2.1 60 = .ok (.putfield 38, 3) := by decide +kernel
theorem fFX11_38 : zfldF "ProperFollow" 38 11 4 (.object "ProperFollow$Day") := ⟨kR11, kT11, 20, kt11, rfl, ki11, by decide, fwX11_38, kk11, kn11, by decide +kernel, by decide +kernel, by decide +kernel⟩
theorem dX11_init_63 : decode YX11_init.2.1 63 = .ok (.aload_n 0, 1) := by decide +kernel
theorem dX11_init_64 : decode YX11_init.2.1 64 = .ok (.new 35, 3) := by decide +kernel
theorem dX11_init_67 : decode YX11_init.2.1 67 = .ok (.dup, 1) := by decide +kernel
theorem dX11_init_68 : decode YX11_init.2.1 68 = .ok (.invokespecial 37, 3) := by decide +kernel
theorem dX11_init_71 : decode YX11_init.2.1 71 = .ok (.putfield 42, 3) := by decide +kernel
theorem fFX11_42 : zfldF "ProperFollow" 42 11 5 (.object "ProperFollow$Day") := ⟨kR11, kT11, 20, kt11, rfl, ki11, by decide, fwX11_42, kk11, kn11, by decide +kernel, by decide +kernel, by decide +kernel⟩
theorem dX11_init_74 : decode YX11_init.2.1 74 = .ok (.aload_n 0, 1) := by decide +kernel
theorem dX11_init_75 : decode YX11_init.2.1 75 = .ok (.new 45, 3) := by decide +kernel
theorem cwX11_45 : Cond.classLink "ProperFollow" 45 "ProperFollow$Sentence" ∈ zWS := zWS_in (List.mem_of_getElem? (i := 325) (by decide +kernel)) (by decide +kernel)
theorem dX11_init_78 : decode YX11_init.2.1 78 = .ok (.dup, 1) := by decide +kernel
theorem dX11_init_79 : decode YX11_init.2.1 79 = .ok (.invokespecial 47, 3) := by decide +kernel
theorem nlX11_47 : ("ProperFollow", 47, (⟨"ProperFollow$Sentence", "<init>", "()V"⟩ : MethodName), "ProperFollow") ∈ zNW := List.mem_of_getElem? (i := 2) (by decide +kernel)
theorem dX11_init_82 : decode YX11_init.2.1 82 = .ok (.putfield 48, 3) := by decide +kernel
theorem fFX11_48 : zfldF "ProperFollow" 48 11 6 (.object "ProperFollow$Sentence") := ⟨kR11, kT11, 20, kt11, rfl, ki11, by decide, fwX11_48, kk11, kn11, by decide +kernel, by decide +kernel, by decide +kernel⟩
theorem dX11_init_85 : decode YX11_init.2.1 85 = .ok (.aload_n 0, 1) := by decide +kernel
theorem dX11_init_86 : decode YX11_init.2.1 86 = .ok (.new 45, 3) := by decide +kernel
theorem dX11_init_89 : decode YX11_init.2.1 89 = .ok (.dup, 1) := by decide +kernel
theorem dX11_init_90 : decode YX11_init.2.1 90 = .ok (.invokespecial 47, 3) := by decide +kernel
theorem dX11_init_93 : decode YX11_init.2.1 93 = .ok (.putfield 52, 3) := by decide +kernel
theorem fFX11_52 : zfldF "ProperFollow" 52 11 7 (.object "ProperFollow$Sentence") := ⟨kR11, kT11, 20, kt11, rfl, ki11, by decide, fwX11_52, kk11, kn11, by decide +kernel, by decide +kernel, by decide +kernel⟩
theorem dX11_init_96 : decode YX11_init.2.1 96 = .ok (.aload_n 0, 1) := by decide +kernel
theorem dX11_init_97 : decode YX11_init.2.1 97 = .ok (.new 55, 3) := by decide +kernel
theorem cwX11_55 : Cond.classLink "ProperFollow" 55 "ProperFollow$History" ∈ zWS := zWS_in (List.mem_of_getElem? (i := 365) (by decide +kernel)) (by decide +kernel)
theorem wsX3 : Cond.instantiable "ProperFollow$History" 3 ∈ zWS := zWS_in (List.mem_of_getElem? (i := 366) (by decide +kernel)) (by decide +kernel)
theorem df3 : ∀ j, j < 3 → defaultValue (kt3 j) = vp_V [.null, .int 0, .int 0] j := fun j hj => match j, hj with
  | 0, _ => rfl
  | 1, _ => rfl
  | 2, _ => rfl
  | k + 3, h => absurd h (by omega)
theorem dX11_init_100 : decode YX11_init.2.1 100 = .ok (.dup, 1) := by decide +kernel
theorem dX11_init_101 : decode YX11_init.2.1 101 = .ok (.invokespecial 57, 3) := by decide +kernel
theorem lcX3_init : zlk YX3_init 0 := ⟨wi_X3, zWS_in (List.mem_of_getElem? (i := 369) (by decide +kernel)) (by decide +kernel), by decide, by decide, by decide +kernel, by decide⟩
theorem imX3_init : Cond.instanceMethod YX3_init.1 ∈ zWS := zWS_in (List.mem_of_getElem? (i := 368) (by decide +kernel)) (by decide +kernel)
theorem mlX11_57 : Cond.methodLink "ProperFollow" 57 ⟨"ProperFollow$History", "<init>", "()V"⟩ ∈ zWS := zWS_in (List.mem_of_getElem? (i := 367) (by decide +kernel)) (by decide +kernel)
theorem dX11_init_104 : decode YX11_init.2.1 104 = .ok (.putfield 58, 3) := by decide +kernel
theorem fFX11_58 : zfldF "ProperFollow" 58 11 8 (.object "ProperFollow$History") := ⟨kR11, kT11, 20, kt11, rfl, ki11, by decide, fwX11_58, kk11, kn11, by decide +kernel, by decide +kernel, by decide +kernel⟩
theorem dX11_init_107 : decode YX11_init.2.1 107 = .ok (.aload_n 0, 1) := by decide +kernel
theorem dX11_init_108 : decode YX11_init.2.1 108 = .ok (.iconst 2, 1) := by decide +kernel
theorem dX11_init_109 : decode YX11_init.2.1 109 = .ok (.anewarray 62, 3) := by decide +kernel
theorem cwX11_62 : Cond.classLink "ProperFollow" 62 "ProperFollow$Kept" ∈ zWS := zWS_in (List.mem_of_getElem? (i := 384) (by decide +kernel)) (by decide +kernel)
theorem dX11_init_112 : decode YX11_init.2.1 112 = .ok (.putfield 64, 3) := by decide +kernel
theorem fFX11_64 : zfldF "ProperFollow" 64 11 9 (.array (.object "ProperFollow$Kept")) := ⟨kR11, kT11, 20, kt11, rfl, ki11, by decide, fwX11_64, kk11, kn11, by decide +kernel, by decide +kernel, by decide +kernel⟩
theorem dX11_init_115 : decode YX11_init.2.1 115 = .ok (.aload_n 0, 1) := by decide +kernel
theorem dX11_init_116 : decode YX11_init.2.1 116 = .ok (.new 68, 3) := by decide +kernel
theorem cwX11_68 : Cond.classLink "ProperFollow" 68 "ProperFollow$Book" ∈ zWS := zWS_in (List.mem_of_getElem? (i := 386) (by decide +kernel)) (by decide +kernel)
theorem wsX0 : Cond.instantiable "ProperFollow$Book" 10 ∈ zWS := zWS_in (List.mem_of_getElem? (i := 387) (by decide +kernel)) (by decide +kernel)
theorem df0 : ∀ j, j < 10 → defaultValue (kt0 j) = vp_V [.null, .null, .null, .null, .int 0, .int 0, .int 0, .int 0, .int 0, .int 0] j := fun j hj => match j, hj with
  | 0, _ => rfl
  | 1, _ => rfl
  | 2, _ => rfl
  | 3, _ => rfl
  | 4, _ => rfl
  | 5, _ => rfl
  | 6, _ => rfl
  | 7, _ => rfl
  | 8, _ => rfl
  | 9, _ => rfl
  | k + 10, h => absurd h (by omega)
theorem dX11_init_119 : decode YX11_init.2.1 119 = .ok (.dup, 1) := by decide +kernel
theorem dX11_init_120 : decode YX11_init.2.1 120 = .ok (.invokespecial 70, 3) := by decide +kernel
theorem lcX0_init : zlk YX0_init 0 := ⟨wi_X0, zWS_in (List.mem_of_getElem? (i := 390) (by decide +kernel)) (by decide +kernel), by decide, by decide, by decide +kernel, by decide⟩
theorem imX0_init : Cond.instanceMethod YX0_init.1 ∈ zWS := zWS_in (List.mem_of_getElem? (i := 389) (by decide +kernel)) (by decide +kernel)
theorem nlX11_70 : ("ProperFollow", 70, (⟨"ProperFollow$Book", "<init>", "()V"⟩ : MethodName), "ProperFollow") ∈ zNW := List.mem_of_getElem? (i := 3) (by decide +kernel)
theorem dX11_init_123 : decode YX11_init.2.1 123 = .ok (.putfield 71, 3) := by decide +kernel
theorem fFX11_71 : zfldF "ProperFollow" 71 11 10 (.object "ProperFollow$Book") := ⟨kR11, kT11, 20, kt11, rfl, ki11, by decide, fwX11_71, kk11, kn11, by decide +kernel, by decide +kernel, by decide +kernel⟩
theorem dX11_init_126 : decode YX11_init.2.1 126 = .ok (.aload_n 0, 1) := by decide +kernel
theorem dX11_init_127 : decode YX11_init.2.1 127 = .ok (.new 75, 3) := by decide +kernel
theorem cwX11_75 : Cond.classLink "ProperFollow" 75 "ProperFollow$Pairing" ∈ zWS := zWS_in (List.mem_of_getElem? (i := 423) (by decide +kernel)) (by decide +kernel)
theorem wsX6 : Cond.instantiable "ProperFollow$Pairing" 4 ∈ zWS := zWS_in (List.mem_of_getElem? (i := 424) (by decide +kernel)) (by decide +kernel)
theorem df6 : ∀ j, j < 4 → defaultValue (kt6 j) = vp_V [.null, .null, .int 0, .int 0] j := fun j hj => match j, hj with
  | 0, _ => rfl
  | 1, _ => rfl
  | 2, _ => rfl
  | 3, _ => rfl
  | k + 4, h => absurd h (by omega)
theorem dX11_init_130 : decode YX11_init.2.1 130 = .ok (.dup, 1) := by decide +kernel
theorem dX11_init_131 : decode YX11_init.2.1 131 = .ok (.invokespecial 77, 3) := by decide +kernel
theorem lcX6_init : zlk YX6_init 0 := ⟨wi_X6, zWS_in (List.mem_of_getElem? (i := 427) (by decide +kernel)) (by decide +kernel), by decide, by decide, by decide +kernel, by decide⟩
theorem imX6_init : Cond.instanceMethod YX6_init.1 ∈ zWS := zWS_in (List.mem_of_getElem? (i := 426) (by decide +kernel)) (by decide +kernel)
theorem mlX11_77 : Cond.methodLink "ProperFollow" 77 ⟨"ProperFollow$Pairing", "<init>", "()V"⟩ ∈ zWS := zWS_in (List.mem_of_getElem? (i := 425) (by decide +kernel)) (by decide +kernel)
theorem dX11_init_134 : decode YX11_init.2.1 134 = .ok (.putfield 78, 3) := by decide +kernel
theorem fFX11_78 : zfldF "ProperFollow" 78 11 11 (.object "ProperFollow$Pairing") := ⟨kR11, kT11, 20, kt11, rfl, ki11, by decide, fwX11_78, kk11, kn11, by decide +kernel, by decide +kernel, by decide +kernel⟩
theorem dX11_init_137 : decode YX11_init.2.1 137 = .ok (.aload_n 0, 1) := by decide +kernel
theorem dX11_init_138 : decode YX11_init.2.1 138 = .ok (.new 82, 3) := by decide +kernel
theorem cwX11_82 : Cond.classLink "ProperFollow" 82 "ProperFollow$Draws" ∈ zWS := zWS_in (List.mem_of_getElem? (i := 443) (by decide +kernel)) (by decide +kernel)
theorem wsX2 : Cond.instantiable "ProperFollow$Draws" 1 ∈ zWS := zWS_in (List.mem_of_getElem? (i := 444) (by decide +kernel)) (by decide +kernel)
theorem df2 : ∀ j, j < 1 → defaultValue (kt2 j) = vp_V [.int 0] j := fun j hj => match j, hj with
  | 0, _ => rfl
  | k + 1, h => absurd h (by omega)
theorem dX11_init_141 : decode YX11_init.2.1 141 = .ok (.dup, 1) := by decide +kernel
theorem dX11_init_142 : decode YX11_init.2.1 142 = .ok (.invokespecial 84, 3) := by decide +kernel
theorem lcX2_init : zlk YX2_init 0 := ⟨wi_X2, zWS_in (List.mem_of_getElem? (i := 447) (by decide +kernel)) (by decide +kernel), by decide, by decide, by decide +kernel, by decide⟩
theorem imX2_init : Cond.instanceMethod YX2_init.1 ∈ zWS := zWS_in (List.mem_of_getElem? (i := 446) (by decide +kernel)) (by decide +kernel)
theorem nlX11_84 : ("ProperFollow", 84, (⟨"ProperFollow$Draws", "<init>", "()V"⟩ : MethodName), "ProperFollow") ∈ zNW := List.mem_of_getElem? (i := 4) (by decide +kernel)
theorem dX11_init_145 : decode YX11_init.2.1 145 = .ok (.putfield 85, 3) := by decide +kernel
theorem fFX11_85 : zfldF "ProperFollow" 85 11 12 (.object "ProperFollow$Draws") := ⟨kR11, kT11, 20, kt11, rfl, ki11, by decide, fwX11_85, kk11, kn11, by decide +kernel, by decide +kernel, by decide +kernel⟩
theorem dX11_init_148 : decode YX11_init.2.1 148 = .ok (.aload_n 0, 1) := by decide +kernel
theorem dX11_init_149 : decode YX11_init.2.1 149 = .ok (.new 89, 3) := by decide +kernel
theorem cwX11_89 : Cond.classLink "ProperFollow" 89 "ProperFollow$Line" ∈ zWS := zWS_in (List.mem_of_getElem? (i := 453) (by decide +kernel)) (by decide +kernel)
theorem wsX5 : Cond.instantiable "ProperFollow$Line" 2 ∈ zWS := zWS_in (List.mem_of_getElem? (i := 454) (by decide +kernel)) (by decide +kernel)
theorem df5 : ∀ j, j < 2 → defaultValue (kt5 j) = vp_V [.null, .int 0] j := fun j hj => match j, hj with
  | 0, _ => rfl
  | 1, _ => rfl
  | k + 2, h => absurd h (by omega)
theorem dX11_init_152 : decode YX11_init.2.1 152 = .ok (.dup, 1) := by decide +kernel
theorem dX11_init_153 : decode YX11_init.2.1 153 = .ok (.invokespecial 91, 3) := by decide +kernel
theorem lcX5_init : zlk YX5_init 0 := ⟨wi_X5, zWS_in (List.mem_of_getElem? (i := 457) (by decide +kernel)) (by decide +kernel), by decide, by decide, by decide +kernel, by decide⟩
theorem imX5_init : Cond.instanceMethod YX5_init.1 ∈ zWS := zWS_in (List.mem_of_getElem? (i := 456) (by decide +kernel)) (by decide +kernel)
theorem nlX11_91 : ("ProperFollow", 91, (⟨"ProperFollow$Line", "<init>", "()V"⟩ : MethodName), "ProperFollow") ∈ zNW := List.mem_of_getElem? (i := 5) (by decide +kernel)
theorem dX11_init_156 : decode YX11_init.2.1 156 = .ok (.putfield 92, 3) := by decide +kernel
theorem fFX11_92 : zfldF "ProperFollow" 92 11 13 (.object "ProperFollow$Line") := ⟨kR11, kT11, 20, kt11, rfl, ki11, by decide, fwX11_92, kk11, kn11, by decide +kernel, by decide +kernel, by decide +kernel⟩
theorem dX11_init_159 : decode YX11_init.2.1 159 = .ok (.aload_n 0, 1) := by decide +kernel
theorem dX11_init_160 : decode YX11_init.2.1 160 = .ok (.bipush 8, 2) := by decide +kernel
theorem dX11_init_162 : decode YX11_init.2.1 162 = .ok (.newarray .int, 2) := by decide +kernel
theorem dX11_init_164 : decode YX11_init.2.1 164 = .ok (.putfield 96, 3) := by decide +kernel
theorem fFX11_96 : zfldF "ProperFollow" 96 11 14 (.array .int) := ⟨kR11, kT11, 20, kt11, rfl, ki11, by decide, fwX11_96, kk11, kn11, by decide +kernel, by decide +kernel, by decide +kernel⟩
theorem dX11_init_167 : decode YX11_init.2.1 167 = .ok (.aload_n 0, 1) := by decide +kernel
theorem dX11_init_168 : decode YX11_init.2.1 168 = .ok (.iconst (-1), 1) := by decide +kernel
theorem dX11_init_169 : decode YX11_init.2.1 169 = .ok (.putfield 100, 3) := by decide +kernel
theorem dX11_init_172 : decode YX11_init.2.1 172 = .ok (.aload_n 0, 1) := by decide +kernel
theorem dX11_init_173 : decode YX11_init.2.1 173 = .ok (.iconst (-1), 1) := by decide +kernel
theorem dX11_init_174 : decode YX11_init.2.1 174 = .ok (.putfield 104, 3) := by decide +kernel
theorem dX11_init_177 : decode YX11_init.2.1 177 = .ok (.aload_n 0, 1) := by decide +kernel
theorem dX11_init_178 : decode YX11_init.2.1 178 = .ok (.iconst (-1), 1) := by decide +kernel
theorem dX11_init_179 : decode YX11_init.2.1 179 = .ok (.putfield 107, 3) := by decide +kernel
theorem dX11_init_182 : decode YX11_init.2.1 182 = .ok (.aload_n 0, 1) := by decide +kernel
theorem dX11_init_183 : decode YX11_init.2.1 183 = .ok (.iconst (-1), 1) := by decide +kernel
theorem dX11_init_184 : decode YX11_init.2.1 184 = .ok (.putfield 110, 3) := by decide +kernel
theorem dX11_init_187 : decode YX11_init.2.1 187 = .ok (.iconst 0, 1) := by decide +kernel
theorem dX11_init_188 : decode YX11_init.2.1 188 = .ok (.istore_n 1, 1) := by decide +kernel
theorem dX11_init_189 : decode YX11_init.2.1 189 = .ok (.iload_n 1, 1) := by decide +kernel
theorem dX11_init_190 : decode YX11_init.2.1 190 = .ok (.iconst 2, 1) := by decide +kernel
theorem dX11_init_191 : decode YX11_init.2.1 191 = .ok (.if_icmp .ge 22, 3) := by decide +kernel
theorem dX11_init_194 : decode YX11_init.2.1 194 = .ok (.aload_n 0, 1) := by decide +kernel
theorem dX11_init_195 : decode YX11_init.2.1 195 = .ok (.getfield 64, 3) := by decide +kernel
theorem dX11_init_198 : decode YX11_init.2.1 198 = .ok (.iload_n 1, 1) := by decide +kernel
theorem dX11_init_199 : decode YX11_init.2.1 199 = .ok (.new 62, 3) := by decide +kernel
theorem wsX4 : Cond.instantiable "ProperFollow$Kept" 4 ∈ zWS := zWS_in (List.mem_of_getElem? (i := 466) (by decide +kernel)) (by decide +kernel)
theorem df4 : ∀ j, j < 4 → defaultValue (kt4 j) = vp_V [.null, .null, .null, .int 0] j := fun j hj => match j, hj with
  | 0, _ => rfl
  | 1, _ => rfl
  | 2, _ => rfl
  | 3, _ => rfl
  | k + 4, h => absurd h (by omega)
theorem dX11_init_202 : decode YX11_init.2.1 202 = .ok (.dup, 1) := by decide +kernel
theorem dX11_init_203 : decode YX11_init.2.1 203 = .ok (.invokespecial 113, 3) := by decide +kernel
theorem lcX4_init : zlk YX4_init 0 := ⟨wi_X4, zWS_in (List.mem_of_getElem? (i := 469) (by decide +kernel)) (by decide +kernel), by decide, by decide, by decide +kernel, by decide⟩
theorem imX4_init : Cond.instanceMethod YX4_init.1 ∈ zWS := zWS_in (List.mem_of_getElem? (i := 468) (by decide +kernel)) (by decide +kernel)
theorem nlX11_113 : ("ProperFollow", 113, (⟨"ProperFollow$Kept", "<init>", "()V"⟩ : MethodName), "ProperFollow") ∈ zNW := List.mem_of_getElem? (i := 6) (by decide +kernel)
theorem dX11_init_206 : decode YX11_init.2.1 206 = .ok (.aastore, 1) := by decide +kernel
theorem dX11_init_207 : decode YX11_init.2.1 207 = .ok (.iinc 1 1, 3) := by decide +kernel
theorem dX11_init_210 : decode YX11_init.2.1 210 = .ok (.goto (-21), 3) := by decide +kernel
theorem dX11_init_213 : decode YX11_init.2.1 213 = .ok (.return_, 1) := by decide +kernel
theorem upd_zero (k : Nat) : upd (fun _ => 0) k 0 = (fun _ => 0) := by funext j; unfold upd; split <;> rfl
theorem c_clears (g : yG) (m0 h : Nat) (fs : List Value) (hf : fs[7]? = some (.ref h)) : yK g 1 0 0 YX12_clears [.ref m0] [(m0, .inr (12, fs)), (h, .inl (g.2.1 0, 89, .inl (fun _ => 0)))] (fun v w => v = none ∧ w = [(m0, .inr (12, fs)), (h, .inl (g.2.1 0, 89, .inl (fun _ => 0)))]) := by
  refine yK_of (by decide) (Nat.le_of_ble_eq_true rfl) (fun A => ?_)
  refine ny_loc [0] rfl ?_
  refine ny_iconst (pc' := 1) dX12_clears_0 rfl kiconst_0 ?_
  refine ny_istore_n (L' := [(1, .int 0), (0, .ref m0)]) (pc' := 2) dX12_clears_1 rfl rfl (by decide) rfl ?_
  have HL : ∀ (r i : Nat), i ≤ 89 → 90 ≤ i + r → yR g A 1 0 0 YX12_clears 2 [(0, .ref m0), (1, .int (nI i))] [] [(m0, .inr (12, fs)), (h, .inl (g.2.1 0, 89, .inl (fun _ => 0)))] 0 0 (fun v w => v = none ∧ w = [(m0, .inr (12, fs)), (h, .inl (g.2.1 0, 89, .inl (fun _ => 0)))]) := by
    intro r
    induction r with
    | zero => intro i h1 h2; omega
    | succ r ih =>
      intro i h1 h2
      refine ny_iload_n 1 (pc' := 3) dX12_clears_2 rfl rfl rfl ?_
      refine ny_bipush (pc' := 5) dX12_clears_3 rfl kbipush_89 ?_
      refine ny_icmp_ge (tgt := 21) (pc' := 8) dX12_clears_5 rfl (by decide) (fun c => ?_) (fun c => ?_)
      · exact ny_vret dX12_clears_21 rfl (Nat.le_refl _) (Nat.le_refl _) ⟨rfl, rfl⟩
      · have hi : i < 89 := by
          rcases Nat.lt_or_ge i 89 with z | z
          · exact z
          · exact absurd ((nI_leI (a := 89) (b := i) (by decide) (by omega)).mpr z) c
        refine ny_aload_n 0 (pc' := 9) dX12_clears_8 rfl rfl rfl ?_
        refine ny_get (i := 0) (pc' := 12) dX12_clears_9 rfl flX12_37 rfl hf ?_
        refine ny_iload_n 1 (pc' := 13) dX12_clears_12 rfl rfl rfl ?_
        refine ny_iconst (pc' := 14) dX12_clears_13 rfl kiconst_0 ?_
        refine ny_iast (i := 1) (ws' := [(m0, .inr (12, fs)), (h, .inl (g.2.1 0, 89, .inl (fun _ => 0)))]) (pc' := 15) dX12_clears_14 rfl rfl (vp_in_nI hi (by decide)) (by rw [upd_zero]; rfl) ?_
        refine ny_iinc 1 (v := nI (i + 1)) (L' := [(1, .int (nI (i + 1))), (0, .ref m0)]) (pc' := 18) dX12_clears_15 rfl rfl (by rw [ci1]; exact nI_1 i) (by decide) rfl ?_
        refine ny_goto (tgt := 2) dX12_clears_18 (by decide) ?_
        refine ny_loc [1, 0] rfl ?_
        exact ih (i + 1) (by omega) (by omega)
  refine ny_loc [1, 0] rfl ?_
  exact HL 90 0 (by omega) (by omega)
def zrsv : Nat → Int64 := (vp_updL (vp_updL (vp_updL (vp_updL (vp_updL (vp_updL (vp_updL (vp_updL (vp_updL (vp_updL (vp_updL (vp_updL (vp_updL (vp_updL (vp_updL (vp_updL (vp_updL (vp_updL (vp_updL (vp_updL (vp_updL (vp_updL (fun _ => 0) 0 109330312357234) 1 126943972648308) 2 123581014175598) 3 1852143732) 4 28832959090882419) 5 1735353715) 6 431416635507) 7 119182682645875) 8 448445703539) 9 120299592184933) 10 28530) 11 6385252) 12 7237492) 13 418431069797) 14 125797149402468) 15 1768189029) 16 24948) 17 418330731890) 18 1651863155) 19 1818584692) 20 108187682958948) 21 121450625394034)
def wX12 (g : yG) (a : Nat → Nat) : va_W := [(a 0, .inr (12, [.int 0, .ref (a 1), .int 0, .int 0, .int 0, .int 0, .ref (a 2), .ref (a 3), .ref (a 4), .ref (a 5), .ref (a 6), .int 0, .int 0, .int 0, .int 0, .int 0, .int 0, .long 0, .int 0, .int 0, .ref (a 7), .ref (a 8), .ref (a 9), .ref (a 10), .int 0, .int 0, .int 0, .int 0, .int 0, .ref (a 11), .int (-1), .int 0, .int 0, .ref (a 12), .ref (a 13), .int (-1), .int 0, .ref (a 14), .int 0, .int 0, .int 0, .ref (a 15), .int 0, .ref (a 16), .int 0, .int 0, .int 0, .int 0, .int 0, .ref (a 17), .ref (a 18), .ref (a 19), .ref (a 20)])),
  (a 1, .inl (g.2.1 2, 940, .inl (fun _ => 0))),
  (a 2, .inl (g.2.1 0, 397, .inl (fun _ => 0))),
  (a 3, .inl (g.2.1 0, 89, .inl (fun _ => 0))),
  (a 4, .inl (g.2.1 0, 160, .inl (fun _ => 0))),
  (a 5, .inl (g.2.1 1, 28, .inr (.inl (fun _ => 0)))),
  (a 6, .inl (g.2.1 1, 22, .inr (.inl zrsv))),
  (a 7, .inl (g.2.1 0, 64, .inl (fun _ => 0))),
  (a 8, .inl (g.2.1 0, 6, .inl (fun _ => 0))),
  (a 9, .inl (g.2.1 0, 1016, .inl (fun _ => 0))),
  (a 10, .inl (g.2.1 0, 127, .inl (fun _ => 0))),
  (a 11, .inl (g.2.1 0, 8, .inl (fun _ => 0))),
  (a 12, .inl (g.2.1 0, 448, .inl (fun _ => 0))),
  (a 13, .inl (g.2.1 0, 6, .inl (fun _ => 0))),
  (a 14, .inl (g.2.1 2, 48, .inl (fun _ => 0))),
  (a 15, .inl (g.2.1 0, 4, .inl (fun _ => 0))),
  (a 16, .inl (g.2.1 0, 45, .inl (fun _ => 0))),
  (a 17, .inl (g.2.1 3, 45, .inl (fun _ => 0))),
  (a 18, .inl (g.2.1 0, 794, .inl (fun _ => 0))),
  (a 19, .inl (g.2.1 1, 28, .inr (.inl (fun _ => 0)))),
  (a 20, .inl (g.2.1 3, 2, .inl (fun _ => 0)))]
set_option maxRecDepth 20000 in
theorem cX12 (g : yG) (h0 : Nat) : yK g 2 20 4277 YX12_init [.ref h0] [(h0, .inr (12, [.int 0, .null, .int 0, .int 0, .int 0, .int 0, .null, .null, .null, .null, .null, .int 0, .int 0, .int 0, .int 0, .int 0, .int 0, .long 0, .int 0, .int 0, .null, .null, .null, .null, .int 0, .int 0, .int 0, .int 0, .int 0, .null, .int 0, .int 0, .int 0, .null, .null, .int 0, .int 0, .null, .int 0, .int 0, .int 0, .null, .int 0, .null, .int 0, .int 0, .int 0, .int 0, .int 0, .null, .null, .null, .null]))] (fun v w => v = none ∧ ∃ a : Nat → Nat, a 0 = h0 ∧ w = wX12 g a) := by
  refine yK_of (by decide) (Nat.le_of_ble_eq_true rfl) (fun A => ?_)
  refine ny_loc [0] rfl ?_
  refine ny_aload_n 0 (pc' := 1) dX12_init_0 rfl rfl rfl ?_
  refine ny_obj (pc' := 4) dX12_init_1 rfl moX12_27 oiI oiC (Nat.le_of_ble_eq_true rfl) (Nat.le_of_ble_eq_true rfl) ?_
  refine ny_aload_n 0 (pc' := 5) dX12_init_4 rfl rfl rfl ?_
  refine ny_sipush (pc' := 8) dX12_init_5 rfl ksipush_940 ?_
  refine ny_newB (N := 940) (pc' := 10) dX12_init_8 rfl wA2 (by decide) (by decide) (by decide) (Nat.le_of_ble_eq_true rfl) (Nat.le_of_ble_eq_true rfl) (fun q1 => ?_)
  refine ny_eq (ws' := [(h0, .inr (12, [.int 0, .null, .int 0, .int 0, .int 0, .int 0, .null, .null, .null, .null, .null, .int 0, .int 0, .int 0, .int 0, .int 0, .int 0, .long 0, .int 0, .int 0, .null, .null, .null, .null, .int 0, .int 0, .int 0, .int 0, .int 0, .null, .int 0, .int 0, .int 0, .null, .null, .int 0, .int 0, .null, .int 0, .int 0, .int 0, .null, .int 0, .null, .int 0, .int 0, .int 0, .int 0, .int 0, .null, .null, .null, .null])), (q1, .inl (g.2.1 2, 940, .inl (fun _ => 0)))]) rfl ?_
  refine ny_putF (i := 0) (ws' := [(h0, .inr (12, [.int 0, .ref q1, .int 0, .int 0, .int 0, .int 0, .null, .null, .null, .null, .null, .int 0, .int 0, .int 0, .int 0, .int 0, .int 0, .long 0, .int 0, .int 0, .null, .null, .null, .null, .int 0, .int 0, .int 0, .int 0, .int 0, .null, .int 0, .int 0, .int 0, .null, .null, .int 0, .int 0, .null, .int 0, .int 0, .int 0, .null, .int 0, .null, .int 0, .int 0, .int 0, .int 0, .int 0, .null, .null, .null, .null])), (q1, .inl (g.2.1 2, 940, .inl (fun _ => 0)))]) (pc' := 13) dX12_init_10 rfl fFX12_14 rfl rfl rfl rfl (Nat.le_of_ble_eq_true rfl) rfl ?_
  refine ny_aload_n 0 (pc' := 14) dX12_init_13 rfl rfl rfl ?_
  refine ny_sipush (pc' := 17) dX12_init_14 rfl ksipush_397 ?_
  refine ny_newI (N := 397) (pc' := 19) dX12_init_17 rfl wA0 (by decide) (by decide) (by decide) (Nat.le_of_ble_eq_true rfl) (Nat.le_of_ble_eq_true rfl) (fun q2 => ?_)
  refine ny_eq (ws' := [(h0, .inr (12, [.int 0, .ref q1, .int 0, .int 0, .int 0, .int 0, .null, .null, .null, .null, .null, .int 0, .int 0, .int 0, .int 0, .int 0, .int 0, .long 0, .int 0, .int 0, .null, .null, .null, .null, .int 0, .int 0, .int 0, .int 0, .int 0, .null, .int 0, .int 0, .int 0, .null, .null, .int 0, .int 0, .null, .int 0, .int 0, .int 0, .null, .int 0, .null, .int 0, .int 0, .int 0, .int 0, .int 0, .null, .null, .null, .null])), (q1, .inl (g.2.1 2, 940, .inl (fun _ => 0))), (q2, .inl (g.2.1 0, 397, .inl (fun _ => 0)))]) rfl ?_
  refine ny_putF (i := 0) (ws' := [(h0, .inr (12, [.int 0, .ref q1, .int 0, .int 0, .int 0, .int 0, .ref q2, .null, .null, .null, .null, .int 0, .int 0, .int 0, .int 0, .int 0, .int 0, .long 0, .int 0, .int 0, .null, .null, .null, .null, .int 0, .int 0, .int 0, .int 0, .int 0, .null, .int 0, .int 0, .int 0, .null, .null, .int 0, .int 0, .null, .int 0, .int 0, .int 0, .null, .int 0, .null, .int 0, .int 0, .int 0, .int 0, .int 0, .null, .null, .null, .null])), (q1, .inl (g.2.1 2, 940, .inl (fun _ => 0))), (q2, .inl (g.2.1 0, 397, .inl (fun _ => 0)))]) (pc' := 22) dX12_init_19 rfl fFX12_33 rfl rfl rfl rfl (Nat.le_of_ble_eq_true rfl) rfl ?_
  refine ny_aload_n 0 (pc' := 23) dX12_init_22 rfl rfl rfl ?_
  refine ny_bipush (pc' := 25) dX12_init_23 rfl kbipush_89 ?_
  refine ny_newI (N := 89) (pc' := 27) dX12_init_25 rfl wA0 (by decide) (by decide) (by decide) (Nat.le_of_ble_eq_true rfl) (Nat.le_of_ble_eq_true rfl) (fun q3 => ?_)
  refine ny_eq (ws' := [(h0, .inr (12, [.int 0, .ref q1, .int 0, .int 0, .int 0, .int 0, .ref q2, .null, .null, .null, .null, .int 0, .int 0, .int 0, .int 0, .int 0, .int 0, .long 0, .int 0, .int 0, .null, .null, .null, .null, .int 0, .int 0, .int 0, .int 0, .int 0, .null, .int 0, .int 0, .int 0, .null, .null, .int 0, .int 0, .null, .int 0, .int 0, .int 0, .null, .int 0, .null, .int 0, .int 0, .int 0, .int 0, .int 0, .null, .null, .null, .null])), (q1, .inl (g.2.1 2, 940, .inl (fun _ => 0))), (q2, .inl (g.2.1 0, 397, .inl (fun _ => 0))), (q3, .inl (g.2.1 0, 89, .inl (fun _ => 0)))]) rfl ?_
  refine ny_putF (i := 0) (ws' := [(h0, .inr (12, [.int 0, .ref q1, .int 0, .int 0, .int 0, .int 0, .ref q2, .ref q3, .null, .null, .null, .int 0, .int 0, .int 0, .int 0, .int 0, .int 0, .long 0, .int 0, .int 0, .null, .null, .null, .null, .int 0, .int 0, .int 0, .int 0, .int 0, .null, .int 0, .int 0, .int 0, .null, .null, .int 0, .int 0, .null, .int 0, .int 0, .int 0, .null, .int 0, .null, .int 0, .int 0, .int 0, .int 0, .int 0, .null, .null, .null, .null])), (q1, .inl (g.2.1 2, 940, .inl (fun _ => 0))), (q2, .inl (g.2.1 0, 397, .inl (fun _ => 0))), (q3, .inl (g.2.1 0, 89, .inl (fun _ => 0)))]) (pc' := 30) dX12_init_27 rfl fFX12_37 rfl rfl rfl rfl (Nat.le_of_ble_eq_true rfl) rfl ?_
  refine ny_aload_n 0 (pc' := 31) dX12_init_30 rfl rfl rfl ?_
  refine ny_sipush (pc' := 34) dX12_init_31 rfl ksipush_160 ?_
  refine ny_newI (N := 160) (pc' := 36) dX12_init_34 rfl wA0 (by decide) (by decide) (by decide) (Nat.le_of_ble_eq_true rfl) (Nat.le_of_ble_eq_true rfl) (fun q4 => ?_)
  refine ny_eq (ws' := [(h0, .inr (12, [.int 0, .ref q1, .int 0, .int 0, .int 0, .int 0, .ref q2, .ref q3, .null, .null, .null, .int 0, .int 0, .int 0, .int 0, .int 0, .int 0, .long 0, .int 0, .int 0, .null, .null, .null, .null, .int 0, .int 0, .int 0, .int 0, .int 0, .null, .int 0, .int 0, .int 0, .null, .null, .int 0, .int 0, .null, .int 0, .int 0, .int 0, .null, .int 0, .null, .int 0, .int 0, .int 0, .int 0, .int 0, .null, .null, .null, .null])), (q1, .inl (g.2.1 2, 940, .inl (fun _ => 0))), (q2, .inl (g.2.1 0, 397, .inl (fun _ => 0))), (q3, .inl (g.2.1 0, 89, .inl (fun _ => 0))), (q4, .inl (g.2.1 0, 160, .inl (fun _ => 0)))]) rfl ?_
  refine ny_putF (i := 0) (ws' := [(h0, .inr (12, [.int 0, .ref q1, .int 0, .int 0, .int 0, .int 0, .ref q2, .ref q3, .ref q4, .null, .null, .int 0, .int 0, .int 0, .int 0, .int 0, .int 0, .long 0, .int 0, .int 0, .null, .null, .null, .null, .int 0, .int 0, .int 0, .int 0, .int 0, .null, .int 0, .int 0, .int 0, .null, .null, .int 0, .int 0, .null, .int 0, .int 0, .int 0, .null, .int 0, .null, .int 0, .int 0, .int 0, .int 0, .int 0, .null, .null, .null, .null])), (q1, .inl (g.2.1 2, 940, .inl (fun _ => 0))), (q2, .inl (g.2.1 0, 397, .inl (fun _ => 0))), (q3, .inl (g.2.1 0, 89, .inl (fun _ => 0))), (q4, .inl (g.2.1 0, 160, .inl (fun _ => 0)))]) (pc' := 39) dX12_init_36 rfl fFX12_40 rfl rfl rfl rfl (Nat.le_of_ble_eq_true rfl) rfl ?_
  refine ny_aload_n 0 (pc' := 40) dX12_init_39 rfl rfl rfl ?_
  refine ny_bipush (pc' := 42) dX12_init_40 rfl kbipush_28 ?_
  refine ny_newL (N := 28) (pc' := 44) dX12_init_42 rfl wA1 (by decide) (by decide) (by decide) (Nat.le_of_ble_eq_true rfl) (Nat.le_of_ble_eq_true rfl) (fun q5 => ?_)
  refine ny_eq (ws' := [(h0, .inr (12, [.int 0, .ref q1, .int 0, .int 0, .int 0, .int 0, .ref q2, .ref q3, .ref q4, .null, .null, .int 0, .int 0, .int 0, .int 0, .int 0, .int 0, .long 0, .int 0, .int 0, .null, .null, .null, .null, .int 0, .int 0, .int 0, .int 0, .int 0, .null, .int 0, .int 0, .int 0, .null, .null, .int 0, .int 0, .null, .int 0, .int 0, .int 0, .null, .int 0, .null, .int 0, .int 0, .int 0, .int 0, .int 0, .null, .null, .null, .null])), (q1, .inl (g.2.1 2, 940, .inl (fun _ => 0))), (q2, .inl (g.2.1 0, 397, .inl (fun _ => 0))), (q3, .inl (g.2.1 0, 89, .inl (fun _ => 0))), (q4, .inl (g.2.1 0, 160, .inl (fun _ => 0))), (q5, .inl (g.2.1 1, 28, .inr (.inl (fun _ => 0))))]) rfl ?_
  refine ny_putF (i := 0) (ws' := [(h0, .inr (12, [.int 0, .ref q1, .int 0, .int 0, .int 0, .int 0, .ref q2, .ref q3, .ref q4, .ref q5, .null, .int 0, .int 0, .int 0, .int 0, .int 0, .int 0, .long 0, .int 0, .int 0, .null, .null, .null, .null, .int 0, .int 0, .int 0, .int 0, .int 0, .null, .int 0, .int 0, .int 0, .null, .null, .int 0, .int 0, .null, .int 0, .int 0, .int 0, .null, .int 0, .null, .int 0, .int 0, .int 0, .int 0, .int 0, .null, .null, .null, .null])), (q1, .inl (g.2.1 2, 940, .inl (fun _ => 0))), (q2, .inl (g.2.1 0, 397, .inl (fun _ => 0))), (q3, .inl (g.2.1 0, 89, .inl (fun _ => 0))), (q4, .inl (g.2.1 0, 160, .inl (fun _ => 0))), (q5, .inl (g.2.1 1, 28, .inr (.inl (fun _ => 0))))]) (pc' := 47) dX12_init_44 rfl fFX12_43 rfl rfl rfl rfl (Nat.le_of_ble_eq_true rfl) rfl ?_
  refine ny_aload_n 0 (pc' := 48) dX12_init_47 rfl rfl rfl ?_
  refine ny_bipush (pc' := 50) dX12_init_48 rfl kbipush_22 ?_
  refine ny_newL (N := 22) (pc' := 52) dX12_init_50 rfl wA1 (by decide) (by decide) (by decide) (Nat.le_of_ble_eq_true rfl) (Nat.le_of_ble_eq_true rfl) (fun q6 => ?_)
  refine ny_eq (ws' := [(h0, .inr (12, [.int 0, .ref q1, .int 0, .int 0, .int 0, .int 0, .ref q2, .ref q3, .ref q4, .ref q5, .null, .int 0, .int 0, .int 0, .int 0, .int 0, .int 0, .long 0, .int 0, .int 0, .null, .null, .null, .null, .int 0, .int 0, .int 0, .int 0, .int 0, .null, .int 0, .int 0, .int 0, .null, .null, .int 0, .int 0, .null, .int 0, .int 0, .int 0, .null, .int 0, .null, .int 0, .int 0, .int 0, .int 0, .int 0, .null, .null, .null, .null])), (q1, .inl (g.2.1 2, 940, .inl (fun _ => 0))), (q2, .inl (g.2.1 0, 397, .inl (fun _ => 0))), (q3, .inl (g.2.1 0, 89, .inl (fun _ => 0))), (q4, .inl (g.2.1 0, 160, .inl (fun _ => 0))), (q5, .inl (g.2.1 1, 28, .inr (.inl (fun _ => 0)))), (q6, .inl (g.2.1 1, 22, .inr (.inl (fun _ => 0))))]) rfl ?_
  refine ny_putF (i := 0) (ws' := [(h0, .inr (12, [.int 0, .ref q1, .int 0, .int 0, .int 0, .int 0, .ref q2, .ref q3, .ref q4, .ref q5, .ref q6, .int 0, .int 0, .int 0, .int 0, .int 0, .int 0, .long 0, .int 0, .int 0, .null, .null, .null, .null, .int 0, .int 0, .int 0, .int 0, .int 0, .null, .int 0, .int 0, .int 0, .null, .null, .int 0, .int 0, .null, .int 0, .int 0, .int 0, .null, .int 0, .null, .int 0, .int 0, .int 0, .int 0, .int 0, .null, .null, .null, .null])), (q1, .inl (g.2.1 2, 940, .inl (fun _ => 0))), (q2, .inl (g.2.1 0, 397, .inl (fun _ => 0))), (q3, .inl (g.2.1 0, 89, .inl (fun _ => 0))), (q4, .inl (g.2.1 0, 160, .inl (fun _ => 0))), (q5, .inl (g.2.1 1, 28, .inr (.inl (fun _ => 0)))), (q6, .inl (g.2.1 1, 22, .inr (.inl (fun _ => 0))))]) (pc' := 55) dX12_init_52 rfl fFX12_47 rfl rfl rfl rfl (Nat.le_of_ble_eq_true rfl) rfl ?_
  refine ny_aload_n 0 (pc' := 56) dX12_init_55 rfl rfl rfl ?_
  refine ny_bipush (pc' := 58) dX12_init_56 rfl kbipush_64 ?_
  refine ny_newI (N := 64) (pc' := 60) dX12_init_58 rfl wA0 (by decide) (by decide) (by decide) (Nat.le_of_ble_eq_true rfl) (Nat.le_of_ble_eq_true rfl) (fun q7 => ?_)
  refine ny_eq (ws' := [(h0, .inr (12, [.int 0, .ref q1, .int 0, .int 0, .int 0, .int 0, .ref q2, .ref q3, .ref q4, .ref q5, .ref q6, .int 0, .int 0, .int 0, .int 0, .int 0, .int 0, .long 0, .int 0, .int 0, .null, .null, .null, .null, .int 0, .int 0, .int 0, .int 0, .int 0, .null, .int 0, .int 0, .int 0, .null, .null, .int 0, .int 0, .null, .int 0, .int 0, .int 0, .null, .int 0, .null, .int 0, .int 0, .int 0, .int 0, .int 0, .null, .null, .null, .null])), (q1, .inl (g.2.1 2, 940, .inl (fun _ => 0))), (q2, .inl (g.2.1 0, 397, .inl (fun _ => 0))), (q3, .inl (g.2.1 0, 89, .inl (fun _ => 0))), (q4, .inl (g.2.1 0, 160, .inl (fun _ => 0))), (q5, .inl (g.2.1 1, 28, .inr (.inl (fun _ => 0)))), (q6, .inl (g.2.1 1, 22, .inr (.inl (fun _ => 0)))), (q7, .inl (g.2.1 0, 64, .inl (fun _ => 0)))]) rfl ?_
  refine ny_putF (i := 0) (ws' := [(h0, .inr (12, [.int 0, .ref q1, .int 0, .int 0, .int 0, .int 0, .ref q2, .ref q3, .ref q4, .ref q5, .ref q6, .int 0, .int 0, .int 0, .int 0, .int 0, .int 0, .long 0, .int 0, .int 0, .ref q7, .null, .null, .null, .int 0, .int 0, .int 0, .int 0, .int 0, .null, .int 0, .int 0, .int 0, .null, .null, .int 0, .int 0, .null, .int 0, .int 0, .int 0, .null, .int 0, .null, .int 0, .int 0, .int 0, .int 0, .int 0, .null, .null, .null, .null])), (q1, .inl (g.2.1 2, 940, .inl (fun _ => 0))), (q2, .inl (g.2.1 0, 397, .inl (fun _ => 0))), (q3, .inl (g.2.1 0, 89, .inl (fun _ => 0))), (q4, .inl (g.2.1 0, 160, .inl (fun _ => 0))), (q5, .inl (g.2.1 1, 28, .inr (.inl (fun _ => 0)))), (q6, .inl (g.2.1 1, 22, .inr (.inl (fun _ => 0)))), (q7, .inl (g.2.1 0, 64, .inl (fun _ => 0)))]) (pc' := 63) dX12_init_60 rfl fFX12_50 rfl rfl rfl rfl (Nat.le_of_ble_eq_true rfl) rfl ?_
  refine ny_aload_n 0 (pc' := 64) dX12_init_63 rfl rfl rfl ?_
  refine ny_bipush (pc' := 66) dX12_init_64 rfl kbipush_6 ?_
  refine ny_newI (N := 6) (pc' := 68) dX12_init_66 rfl wA0 (by decide) (by decide) (by decide) (Nat.le_of_ble_eq_true rfl) (Nat.le_of_ble_eq_true rfl) (fun q8 => ?_)
  refine ny_eq (ws' := [(h0, .inr (12, [.int 0, .ref q1, .int 0, .int 0, .int 0, .int 0, .ref q2, .ref q3, .ref q4, .ref q5, .ref q6, .int 0, .int 0, .int 0, .int 0, .int 0, .int 0, .long 0, .int 0, .int 0, .ref q7, .null, .null, .null, .int 0, .int 0, .int 0, .int 0, .int 0, .null, .int 0, .int 0, .int 0, .null, .null, .int 0, .int 0, .null, .int 0, .int 0, .int 0, .null, .int 0, .null, .int 0, .int 0, .int 0, .int 0, .int 0, .null, .null, .null, .null])), (q1, .inl (g.2.1 2, 940, .inl (fun _ => 0))), (q2, .inl (g.2.1 0, 397, .inl (fun _ => 0))), (q3, .inl (g.2.1 0, 89, .inl (fun _ => 0))), (q4, .inl (g.2.1 0, 160, .inl (fun _ => 0))), (q5, .inl (g.2.1 1, 28, .inr (.inl (fun _ => 0)))), (q6, .inl (g.2.1 1, 22, .inr (.inl (fun _ => 0)))), (q7, .inl (g.2.1 0, 64, .inl (fun _ => 0))), (q8, .inl (g.2.1 0, 6, .inl (fun _ => 0)))]) rfl ?_
  refine ny_putF (i := 0) (ws' := [(h0, .inr (12, [.int 0, .ref q1, .int 0, .int 0, .int 0, .int 0, .ref q2, .ref q3, .ref q4, .ref q5, .ref q6, .int 0, .int 0, .int 0, .int 0, .int 0, .int 0, .long 0, .int 0, .int 0, .ref q7, .ref q8, .null, .null, .int 0, .int 0, .int 0, .int 0, .int 0, .null, .int 0, .int 0, .int 0, .null, .null, .int 0, .int 0, .null, .int 0, .int 0, .int 0, .null, .int 0, .null, .int 0, .int 0, .int 0, .int 0, .int 0, .null, .null, .null, .null])), (q1, .inl (g.2.1 2, 940, .inl (fun _ => 0))), (q2, .inl (g.2.1 0, 397, .inl (fun _ => 0))), (q3, .inl (g.2.1 0, 89, .inl (fun _ => 0))), (q4, .inl (g.2.1 0, 160, .inl (fun _ => 0))), (q5, .inl (g.2.1 1, 28, .inr (.inl (fun _ => 0)))), (q6, .inl (g.2.1 1, 22, .inr (.inl (fun _ => 0)))), (q7, .inl (g.2.1 0, 64, .inl (fun _ => 0))), (q8, .inl (g.2.1 0, 6, .inl (fun _ => 0)))]) (pc' := 71) dX12_init_68 rfl fFX12_53 rfl rfl rfl rfl (Nat.le_of_ble_eq_true rfl) rfl ?_
  refine ny_aload_n 0 (pc' := 72) dX12_init_71 rfl rfl rfl ?_
  refine ny_sipush (pc' := 75) dX12_init_72 rfl ksipush_1016 ?_
  refine ny_newI (N := 1016) (pc' := 77) dX12_init_75 rfl wA0 (by decide) (by decide) (by decide) (Nat.le_of_ble_eq_true rfl) (Nat.le_of_ble_eq_true rfl) (fun q9 => ?_)
  refine ny_eq (ws' := [(h0, .inr (12, [.int 0, .ref q1, .int 0, .int 0, .int 0, .int 0, .ref q2, .ref q3, .ref q4, .ref q5, .ref q6, .int 0, .int 0, .int 0, .int 0, .int 0, .int 0, .long 0, .int 0, .int 0, .ref q7, .ref q8, .null, .null, .int 0, .int 0, .int 0, .int 0, .int 0, .null, .int 0, .int 0, .int 0, .null, .null, .int 0, .int 0, .null, .int 0, .int 0, .int 0, .null, .int 0, .null, .int 0, .int 0, .int 0, .int 0, .int 0, .null, .null, .null, .null])), (q1, .inl (g.2.1 2, 940, .inl (fun _ => 0))), (q2, .inl (g.2.1 0, 397, .inl (fun _ => 0))), (q3, .inl (g.2.1 0, 89, .inl (fun _ => 0))), (q4, .inl (g.2.1 0, 160, .inl (fun _ => 0))), (q5, .inl (g.2.1 1, 28, .inr (.inl (fun _ => 0)))), (q6, .inl (g.2.1 1, 22, .inr (.inl (fun _ => 0)))), (q7, .inl (g.2.1 0, 64, .inl (fun _ => 0))), (q8, .inl (g.2.1 0, 6, .inl (fun _ => 0))), (q9, .inl (g.2.1 0, 1016, .inl (fun _ => 0)))]) rfl ?_
  refine ny_putF (i := 0) (ws' := [(h0, .inr (12, [.int 0, .ref q1, .int 0, .int 0, .int 0, .int 0, .ref q2, .ref q3, .ref q4, .ref q5, .ref q6, .int 0, .int 0, .int 0, .int 0, .int 0, .int 0, .long 0, .int 0, .int 0, .ref q7, .ref q8, .ref q9, .null, .int 0, .int 0, .int 0, .int 0, .int 0, .null, .int 0, .int 0, .int 0, .null, .null, .int 0, .int 0, .null, .int 0, .int 0, .int 0, .null, .int 0, .null, .int 0, .int 0, .int 0, .int 0, .int 0, .null, .null, .null, .null])), (q1, .inl (g.2.1 2, 940, .inl (fun _ => 0))), (q2, .inl (g.2.1 0, 397, .inl (fun _ => 0))), (q3, .inl (g.2.1 0, 89, .inl (fun _ => 0))), (q4, .inl (g.2.1 0, 160, .inl (fun _ => 0))), (q5, .inl (g.2.1 1, 28, .inr (.inl (fun _ => 0)))), (q6, .inl (g.2.1 1, 22, .inr (.inl (fun _ => 0)))), (q7, .inl (g.2.1 0, 64, .inl (fun _ => 0))), (q8, .inl (g.2.1 0, 6, .inl (fun _ => 0))), (q9, .inl (g.2.1 0, 1016, .inl (fun _ => 0)))]) (pc' := 80) dX12_init_77 rfl fFX12_56 rfl rfl rfl rfl (Nat.le_of_ble_eq_true rfl) rfl ?_
  refine ny_aload_n 0 (pc' := 81) dX12_init_80 rfl rfl rfl ?_
  refine ny_bipush (pc' := 83) dX12_init_81 rfl kbipush_127 ?_
  refine ny_newI (N := 127) (pc' := 85) dX12_init_83 rfl wA0 (by decide) (by decide) (by decide) (Nat.le_of_ble_eq_true rfl) (Nat.le_of_ble_eq_true rfl) (fun q10 => ?_)
  refine ny_eq (ws' := [(h0, .inr (12, [.int 0, .ref q1, .int 0, .int 0, .int 0, .int 0, .ref q2, .ref q3, .ref q4, .ref q5, .ref q6, .int 0, .int 0, .int 0, .int 0, .int 0, .int 0, .long 0, .int 0, .int 0, .ref q7, .ref q8, .ref q9, .null, .int 0, .int 0, .int 0, .int 0, .int 0, .null, .int 0, .int 0, .int 0, .null, .null, .int 0, .int 0, .null, .int 0, .int 0, .int 0, .null, .int 0, .null, .int 0, .int 0, .int 0, .int 0, .int 0, .null, .null, .null, .null])), (q1, .inl (g.2.1 2, 940, .inl (fun _ => 0))), (q2, .inl (g.2.1 0, 397, .inl (fun _ => 0))), (q3, .inl (g.2.1 0, 89, .inl (fun _ => 0))), (q4, .inl (g.2.1 0, 160, .inl (fun _ => 0))), (q5, .inl (g.2.1 1, 28, .inr (.inl (fun _ => 0)))), (q6, .inl (g.2.1 1, 22, .inr (.inl (fun _ => 0)))), (q7, .inl (g.2.1 0, 64, .inl (fun _ => 0))), (q8, .inl (g.2.1 0, 6, .inl (fun _ => 0))), (q9, .inl (g.2.1 0, 1016, .inl (fun _ => 0))), (q10, .inl (g.2.1 0, 127, .inl (fun _ => 0)))]) rfl ?_
  refine ny_putF (i := 0) (ws' := [(h0, .inr (12, [.int 0, .ref q1, .int 0, .int 0, .int 0, .int 0, .ref q2, .ref q3, .ref q4, .ref q5, .ref q6, .int 0, .int 0, .int 0, .int 0, .int 0, .int 0, .long 0, .int 0, .int 0, .ref q7, .ref q8, .ref q9, .ref q10, .int 0, .int 0, .int 0, .int 0, .int 0, .null, .int 0, .int 0, .int 0, .null, .null, .int 0, .int 0, .null, .int 0, .int 0, .int 0, .null, .int 0, .null, .int 0, .int 0, .int 0, .int 0, .int 0, .null, .null, .null, .null])), (q1, .inl (g.2.1 2, 940, .inl (fun _ => 0))), (q2, .inl (g.2.1 0, 397, .inl (fun _ => 0))), (q3, .inl (g.2.1 0, 89, .inl (fun _ => 0))), (q4, .inl (g.2.1 0, 160, .inl (fun _ => 0))), (q5, .inl (g.2.1 1, 28, .inr (.inl (fun _ => 0)))), (q6, .inl (g.2.1 1, 22, .inr (.inl (fun _ => 0)))), (q7, .inl (g.2.1 0, 64, .inl (fun _ => 0))), (q8, .inl (g.2.1 0, 6, .inl (fun _ => 0))), (q9, .inl (g.2.1 0, 1016, .inl (fun _ => 0))), (q10, .inl (g.2.1 0, 127, .inl (fun _ => 0)))]) (pc' := 88) dX12_init_85 rfl fFX12_59 rfl rfl rfl rfl (Nat.le_of_ble_eq_true rfl) rfl ?_
  refine ny_aload_n 0 (pc' := 89) dX12_init_88 rfl rfl rfl ?_
  refine ny_bipush (pc' := 91) dX12_init_89 rfl kbipush_8 ?_
  refine ny_newI (N := 8) (pc' := 93) dX12_init_91 rfl wA0 (by decide) (by decide) (by decide) (Nat.le_of_ble_eq_true rfl) (Nat.le_of_ble_eq_true rfl) (fun q11 => ?_)
  refine ny_eq (ws' := [(h0, .inr (12, [.int 0, .ref q1, .int 0, .int 0, .int 0, .int 0, .ref q2, .ref q3, .ref q4, .ref q5, .ref q6, .int 0, .int 0, .int 0, .int 0, .int 0, .int 0, .long 0, .int 0, .int 0, .ref q7, .ref q8, .ref q9, .ref q10, .int 0, .int 0, .int 0, .int 0, .int 0, .null, .int 0, .int 0, .int 0, .null, .null, .int 0, .int 0, .null, .int 0, .int 0, .int 0, .null, .int 0, .null, .int 0, .int 0, .int 0, .int 0, .int 0, .null, .null, .null, .null])), (q1, .inl (g.2.1 2, 940, .inl (fun _ => 0))), (q2, .inl (g.2.1 0, 397, .inl (fun _ => 0))), (q3, .inl (g.2.1 0, 89, .inl (fun _ => 0))), (q4, .inl (g.2.1 0, 160, .inl (fun _ => 0))), (q5, .inl (g.2.1 1, 28, .inr (.inl (fun _ => 0)))), (q6, .inl (g.2.1 1, 22, .inr (.inl (fun _ => 0)))), (q7, .inl (g.2.1 0, 64, .inl (fun _ => 0))), (q8, .inl (g.2.1 0, 6, .inl (fun _ => 0))), (q9, .inl (g.2.1 0, 1016, .inl (fun _ => 0))), (q10, .inl (g.2.1 0, 127, .inl (fun _ => 0))), (q11, .inl (g.2.1 0, 8, .inl (fun _ => 0)))]) rfl ?_
  refine ny_putF (i := 0) (ws' := [(h0, .inr (12, [.int 0, .ref q1, .int 0, .int 0, .int 0, .int 0, .ref q2, .ref q3, .ref q4, .ref q5, .ref q6, .int 0, .int 0, .int 0, .int 0, .int 0, .int 0, .long 0, .int 0, .int 0, .ref q7, .ref q8, .ref q9, .ref q10, .int 0, .int 0, .int 0, .int 0, .int 0, .ref q11, .int 0, .int 0, .int 0, .null, .null, .int 0, .int 0, .null, .int 0, .int 0, .int 0, .null, .int 0, .null, .int 0, .int 0, .int 0, .int 0, .int 0, .null, .null, .null, .null])), (q1, .inl (g.2.1 2, 940, .inl (fun _ => 0))), (q2, .inl (g.2.1 0, 397, .inl (fun _ => 0))), (q3, .inl (g.2.1 0, 89, .inl (fun _ => 0))), (q4, .inl (g.2.1 0, 160, .inl (fun _ => 0))), (q5, .inl (g.2.1 1, 28, .inr (.inl (fun _ => 0)))), (q6, .inl (g.2.1 1, 22, .inr (.inl (fun _ => 0)))), (q7, .inl (g.2.1 0, 64, .inl (fun _ => 0))), (q8, .inl (g.2.1 0, 6, .inl (fun _ => 0))), (q9, .inl (g.2.1 0, 1016, .inl (fun _ => 0))), (q10, .inl (g.2.1 0, 127, .inl (fun _ => 0))), (q11, .inl (g.2.1 0, 8, .inl (fun _ => 0)))]) (pc' := 96) dX12_init_93 rfl fFX12_62 rfl rfl rfl rfl (Nat.le_of_ble_eq_true rfl) rfl ?_
  refine ny_aload_n 0 (pc' := 97) dX12_init_96 rfl rfl rfl ?_
  refine ny_iconst (pc' := 98) dX12_init_97 rfl kiconst_m1 ?_
  refine ny_put (i := 0) (ws' := [(h0, .inr (12, [.int 0, .ref q1, .int 0, .int 0, .int 0, .int 0, .ref q2, .ref q3, .ref q4, .ref q5, .ref q6, .int 0, .int 0, .int 0, .int 0, .int 0, .int 0, .long 0, .int 0, .int 0, .ref q7, .ref q8, .ref q9, .ref q10, .int 0, .int 0, .int 0, .int 0, .int 0, .ref q11, .int (-1), .int 0, .int 0, .null, .null, .int 0, .int 0, .null, .int 0, .int 0, .int 0, .null, .int 0, .null, .int 0, .int 0, .int 0, .int 0, .int 0, .null, .null, .null, .null])), (q1, .inl (g.2.1 2, 940, .inl (fun _ => 0))), (q2, .inl (g.2.1 0, 397, .inl (fun _ => 0))), (q3, .inl (g.2.1 0, 89, .inl (fun _ => 0))), (q4, .inl (g.2.1 0, 160, .inl (fun _ => 0))), (q5, .inl (g.2.1 1, 28, .inr (.inl (fun _ => 0)))), (q6, .inl (g.2.1 1, 22, .inr (.inl (fun _ => 0)))), (q7, .inl (g.2.1 0, 64, .inl (fun _ => 0))), (q8, .inl (g.2.1 0, 6, .inl (fun _ => 0))), (q9, .inl (g.2.1 0, 1016, .inl (fun _ => 0))), (q10, .inl (g.2.1 0, 127, .inl (fun _ => 0))), (q11, .inl (g.2.1 0, 8, .inl (fun _ => 0)))]) (pc' := 101) dX12_init_98 rfl fpX12_65 rfl rfl rfl (Nat.le_of_ble_eq_true rfl) rfl ?_
  refine ny_aload_n 0 (pc' := 102) dX12_init_101 rfl rfl rfl ?_
  refine ny_sipush (pc' := 105) dX12_init_102 rfl ksipush_448 ?_
  refine ny_newI (N := 448) (pc' := 107) dX12_init_105 rfl wA0 (by decide) (by decide) (by decide) (Nat.le_of_ble_eq_true rfl) (Nat.le_of_ble_eq_true rfl) (fun q12 => ?_)
  refine ny_eq (ws' := [(h0, .inr (12, [.int 0, .ref q1, .int 0, .int 0, .int 0, .int 0, .ref q2, .ref q3, .ref q4, .ref q5, .ref q6, .int 0, .int 0, .int 0, .int 0, .int 0, .int 0, .long 0, .int 0, .int 0, .ref q7, .ref q8, .ref q9, .ref q10, .int 0, .int 0, .int 0, .int 0, .int 0, .ref q11, .int (-1), .int 0, .int 0, .null, .null, .int 0, .int 0, .null, .int 0, .int 0, .int 0, .null, .int 0, .null, .int 0, .int 0, .int 0, .int 0, .int 0, .null, .null, .null, .null])), (q1, .inl (g.2.1 2, 940, .inl (fun _ => 0))), (q2, .inl (g.2.1 0, 397, .inl (fun _ => 0))), (q3, .inl (g.2.1 0, 89, .inl (fun _ => 0))), (q4, .inl (g.2.1 0, 160, .inl (fun _ => 0))), (q5, .inl (g.2.1 1, 28, .inr (.inl (fun _ => 0)))), (q6, .inl (g.2.1 1, 22, .inr (.inl (fun _ => 0)))), (q7, .inl (g.2.1 0, 64, .inl (fun _ => 0))), (q8, .inl (g.2.1 0, 6, .inl (fun _ => 0))), (q9, .inl (g.2.1 0, 1016, .inl (fun _ => 0))), (q10, .inl (g.2.1 0, 127, .inl (fun _ => 0))), (q11, .inl (g.2.1 0, 8, .inl (fun _ => 0))), (q12, .inl (g.2.1 0, 448, .inl (fun _ => 0)))]) rfl ?_
  refine ny_putF (i := 0) (ws' := [(h0, .inr (12, [.int 0, .ref q1, .int 0, .int 0, .int 0, .int 0, .ref q2, .ref q3, .ref q4, .ref q5, .ref q6, .int 0, .int 0, .int 0, .int 0, .int 0, .int 0, .long 0, .int 0, .int 0, .ref q7, .ref q8, .ref q9, .ref q10, .int 0, .int 0, .int 0, .int 0, .int 0, .ref q11, .int (-1), .int 0, .int 0, .ref q12, .null, .int 0, .int 0, .null, .int 0, .int 0, .int 0, .null, .int 0, .null, .int 0, .int 0, .int 0, .int 0, .int 0, .null, .null, .null, .null])), (q1, .inl (g.2.1 2, 940, .inl (fun _ => 0))), (q2, .inl (g.2.1 0, 397, .inl (fun _ => 0))), (q3, .inl (g.2.1 0, 89, .inl (fun _ => 0))), (q4, .inl (g.2.1 0, 160, .inl (fun _ => 0))), (q5, .inl (g.2.1 1, 28, .inr (.inl (fun _ => 0)))), (q6, .inl (g.2.1 1, 22, .inr (.inl (fun _ => 0)))), (q7, .inl (g.2.1 0, 64, .inl (fun _ => 0))), (q8, .inl (g.2.1 0, 6, .inl (fun _ => 0))), (q9, .inl (g.2.1 0, 1016, .inl (fun _ => 0))), (q10, .inl (g.2.1 0, 127, .inl (fun _ => 0))), (q11, .inl (g.2.1 0, 8, .inl (fun _ => 0))), (q12, .inl (g.2.1 0, 448, .inl (fun _ => 0)))]) (pc' := 110) dX12_init_107 rfl fFX12_68 rfl rfl rfl rfl (Nat.le_of_ble_eq_true rfl) rfl ?_
  refine ny_aload_n 0 (pc' := 111) dX12_init_110 rfl rfl rfl ?_
  refine ny_bipush (pc' := 113) dX12_init_111 rfl kbipush_6 ?_
  refine ny_newI (N := 6) (pc' := 115) dX12_init_113 rfl wA0 (by decide) (by decide) (by decide) (Nat.le_of_ble_eq_true rfl) (Nat.le_of_ble_eq_true rfl) (fun q13 => ?_)
  refine ny_eq (ws' := [(h0, .inr (12, [.int 0, .ref q1, .int 0, .int 0, .int 0, .int 0, .ref q2, .ref q3, .ref q4, .ref q5, .ref q6, .int 0, .int 0, .int 0, .int 0, .int 0, .int 0, .long 0, .int 0, .int 0, .ref q7, .ref q8, .ref q9, .ref q10, .int 0, .int 0, .int 0, .int 0, .int 0, .ref q11, .int (-1), .int 0, .int 0, .ref q12, .null, .int 0, .int 0, .null, .int 0, .int 0, .int 0, .null, .int 0, .null, .int 0, .int 0, .int 0, .int 0, .int 0, .null, .null, .null, .null])), (q1, .inl (g.2.1 2, 940, .inl (fun _ => 0))), (q2, .inl (g.2.1 0, 397, .inl (fun _ => 0))), (q3, .inl (g.2.1 0, 89, .inl (fun _ => 0))), (q4, .inl (g.2.1 0, 160, .inl (fun _ => 0))), (q5, .inl (g.2.1 1, 28, .inr (.inl (fun _ => 0)))), (q6, .inl (g.2.1 1, 22, .inr (.inl (fun _ => 0)))), (q7, .inl (g.2.1 0, 64, .inl (fun _ => 0))), (q8, .inl (g.2.1 0, 6, .inl (fun _ => 0))), (q9, .inl (g.2.1 0, 1016, .inl (fun _ => 0))), (q10, .inl (g.2.1 0, 127, .inl (fun _ => 0))), (q11, .inl (g.2.1 0, 8, .inl (fun _ => 0))), (q12, .inl (g.2.1 0, 448, .inl (fun _ => 0))), (q13, .inl (g.2.1 0, 6, .inl (fun _ => 0)))]) rfl ?_
  refine ny_putF (i := 0) (ws' := [(h0, .inr (12, [.int 0, .ref q1, .int 0, .int 0, .int 0, .int 0, .ref q2, .ref q3, .ref q4, .ref q5, .ref q6, .int 0, .int 0, .int 0, .int 0, .int 0, .int 0, .long 0, .int 0, .int 0, .ref q7, .ref q8, .ref q9, .ref q10, .int 0, .int 0, .int 0, .int 0, .int 0, .ref q11, .int (-1), .int 0, .int 0, .ref q12, .ref q13, .int 0, .int 0, .null, .int 0, .int 0, .int 0, .null, .int 0, .null, .int 0, .int 0, .int 0, .int 0, .int 0, .null, .null, .null, .null])), (q1, .inl (g.2.1 2, 940, .inl (fun _ => 0))), (q2, .inl (g.2.1 0, 397, .inl (fun _ => 0))), (q3, .inl (g.2.1 0, 89, .inl (fun _ => 0))), (q4, .inl (g.2.1 0, 160, .inl (fun _ => 0))), (q5, .inl (g.2.1 1, 28, .inr (.inl (fun _ => 0)))), (q6, .inl (g.2.1 1, 22, .inr (.inl (fun _ => 0)))), (q7, .inl (g.2.1 0, 64, .inl (fun _ => 0))), (q8, .inl (g.2.1 0, 6, .inl (fun _ => 0))), (q9, .inl (g.2.1 0, 1016, .inl (fun _ => 0))), (q10, .inl (g.2.1 0, 127, .inl (fun _ => 0))), (q11, .inl (g.2.1 0, 8, .inl (fun _ => 0))), (q12, .inl (g.2.1 0, 448, .inl (fun _ => 0))), (q13, .inl (g.2.1 0, 6, .inl (fun _ => 0)))]) (pc' := 118) dX12_init_115 rfl fFX12_71 rfl rfl rfl rfl (Nat.le_of_ble_eq_true rfl) rfl ?_
  refine ny_aload_n 0 (pc' := 119) dX12_init_118 rfl rfl rfl ?_
  refine ny_iconst (pc' := 120) dX12_init_119 rfl kiconst_m1 ?_
  refine ny_put (i := 0) (ws' := [(h0, .inr (12, [.int 0, .ref q1, .int 0, .int 0, .int 0, .int 0, .ref q2, .ref q3, .ref q4, .ref q5, .ref q6, .int 0, .int 0, .int 0, .int 0, .int 0, .int 0, .long 0, .int 0, .int 0, .ref q7, .ref q8, .ref q9, .ref q10, .int 0, .int 0, .int 0, .int 0, .int 0, .ref q11, .int (-1), .int 0, .int 0, .ref q12, .ref q13, .int (-1), .int 0, .null, .int 0, .int 0, .int 0, .null, .int 0, .null, .int 0, .int 0, .int 0, .int 0, .int 0, .null, .null, .null, .null])), (q1, .inl (g.2.1 2, 940, .inl (fun _ => 0))), (q2, .inl (g.2.1 0, 397, .inl (fun _ => 0))), (q3, .inl (g.2.1 0, 89, .inl (fun _ => 0))), (q4, .inl (g.2.1 0, 160, .inl (fun _ => 0))), (q5, .inl (g.2.1 1, 28, .inr (.inl (fun _ => 0)))), (q6, .inl (g.2.1 1, 22, .inr (.inl (fun _ => 0)))), (q7, .inl (g.2.1 0, 64, .inl (fun _ => 0))), (q8, .inl (g.2.1 0, 6, .inl (fun _ => 0))), (q9, .inl (g.2.1 0, 1016, .inl (fun _ => 0))), (q10, .inl (g.2.1 0, 127, .inl (fun _ => 0))), (q11, .inl (g.2.1 0, 8, .inl (fun _ => 0))), (q12, .inl (g.2.1 0, 448, .inl (fun _ => 0))), (q13, .inl (g.2.1 0, 6, .inl (fun _ => 0)))]) (pc' := 123) dX12_init_120 rfl fpX12_74 rfl rfl rfl (Nat.le_of_ble_eq_true rfl) rfl ?_
  refine ny_aload_n 0 (pc' := 124) dX12_init_123 rfl rfl rfl ?_
  refine ny_bipush (pc' := 126) dX12_init_124 rfl kbipush_48 ?_
  refine ny_newB (N := 48) (pc' := 128) dX12_init_126 rfl wA2 (by decide) (by decide) (by decide) (Nat.le_of_ble_eq_true rfl) (Nat.le_of_ble_eq_true rfl) (fun q14 => ?_)
  refine ny_eq (ws' := [(h0, .inr (12, [.int 0, .ref q1, .int 0, .int 0, .int 0, .int 0, .ref q2, .ref q3, .ref q4, .ref q5, .ref q6, .int 0, .int 0, .int 0, .int 0, .int 0, .int 0, .long 0, .int 0, .int 0, .ref q7, .ref q8, .ref q9, .ref q10, .int 0, .int 0, .int 0, .int 0, .int 0, .ref q11, .int (-1), .int 0, .int 0, .ref q12, .ref q13, .int (-1), .int 0, .null, .int 0, .int 0, .int 0, .null, .int 0, .null, .int 0, .int 0, .int 0, .int 0, .int 0, .null, .null, .null, .null])), (q1, .inl (g.2.1 2, 940, .inl (fun _ => 0))), (q2, .inl (g.2.1 0, 397, .inl (fun _ => 0))), (q3, .inl (g.2.1 0, 89, .inl (fun _ => 0))), (q4, .inl (g.2.1 0, 160, .inl (fun _ => 0))), (q5, .inl (g.2.1 1, 28, .inr (.inl (fun _ => 0)))), (q6, .inl (g.2.1 1, 22, .inr (.inl (fun _ => 0)))), (q7, .inl (g.2.1 0, 64, .inl (fun _ => 0))), (q8, .inl (g.2.1 0, 6, .inl (fun _ => 0))), (q9, .inl (g.2.1 0, 1016, .inl (fun _ => 0))), (q10, .inl (g.2.1 0, 127, .inl (fun _ => 0))), (q11, .inl (g.2.1 0, 8, .inl (fun _ => 0))), (q12, .inl (g.2.1 0, 448, .inl (fun _ => 0))), (q13, .inl (g.2.1 0, 6, .inl (fun _ => 0))), (q14, .inl (g.2.1 2, 48, .inl (fun _ => 0)))]) rfl ?_
  refine ny_putF (i := 0) (ws' := [(h0, .inr (12, [.int 0, .ref q1, .int 0, .int 0, .int 0, .int 0, .ref q2, .ref q3, .ref q4, .ref q5, .ref q6, .int 0, .int 0, .int 0, .int 0, .int 0, .int 0, .long 0, .int 0, .int 0, .ref q7, .ref q8, .ref q9, .ref q10, .int 0, .int 0, .int 0, .int 0, .int 0, .ref q11, .int (-1), .int 0, .int 0, .ref q12, .ref q13, .int (-1), .int 0, .ref q14, .int 0, .int 0, .int 0, .null, .int 0, .null, .int 0, .int 0, .int 0, .int 0, .int 0, .null, .null, .null, .null])), (q1, .inl (g.2.1 2, 940, .inl (fun _ => 0))), (q2, .inl (g.2.1 0, 397, .inl (fun _ => 0))), (q3, .inl (g.2.1 0, 89, .inl (fun _ => 0))), (q4, .inl (g.2.1 0, 160, .inl (fun _ => 0))), (q5, .inl (g.2.1 1, 28, .inr (.inl (fun _ => 0)))), (q6, .inl (g.2.1 1, 22, .inr (.inl (fun _ => 0)))), (q7, .inl (g.2.1 0, 64, .inl (fun _ => 0))), (q8, .inl (g.2.1 0, 6, .inl (fun _ => 0))), (q9, .inl (g.2.1 0, 1016, .inl (fun _ => 0))), (q10, .inl (g.2.1 0, 127, .inl (fun _ => 0))), (q11, .inl (g.2.1 0, 8, .inl (fun _ => 0))), (q12, .inl (g.2.1 0, 448, .inl (fun _ => 0))), (q13, .inl (g.2.1 0, 6, .inl (fun _ => 0))), (q14, .inl (g.2.1 2, 48, .inl (fun _ => 0)))]) (pc' := 131) dX12_init_128 rfl fFX12_77 rfl rfl rfl rfl (Nat.le_of_ble_eq_true rfl) rfl ?_
  refine ny_aload_n 0 (pc' := 132) dX12_init_131 rfl rfl rfl ?_
  refine ny_iconst (pc' := 133) dX12_init_132 rfl kiconst_4 ?_
  refine ny_newI (N := 4) (pc' := 135) dX12_init_133 rfl wA0 (by decide) (by decide) (by decide) (Nat.le_of_ble_eq_true rfl) (Nat.le_of_ble_eq_true rfl) (fun q15 => ?_)
  refine ny_eq (ws' := [(h0, .inr (12, [.int 0, .ref q1, .int 0, .int 0, .int 0, .int 0, .ref q2, .ref q3, .ref q4, .ref q5, .ref q6, .int 0, .int 0, .int 0, .int 0, .int 0, .int 0, .long 0, .int 0, .int 0, .ref q7, .ref q8, .ref q9, .ref q10, .int 0, .int 0, .int 0, .int 0, .int 0, .ref q11, .int (-1), .int 0, .int 0, .ref q12, .ref q13, .int (-1), .int 0, .ref q14, .int 0, .int 0, .int 0, .null, .int 0, .null, .int 0, .int 0, .int 0, .int 0, .int 0, .null, .null, .null, .null])), (q1, .inl (g.2.1 2, 940, .inl (fun _ => 0))), (q2, .inl (g.2.1 0, 397, .inl (fun _ => 0))), (q3, .inl (g.2.1 0, 89, .inl (fun _ => 0))), (q4, .inl (g.2.1 0, 160, .inl (fun _ => 0))), (q5, .inl (g.2.1 1, 28, .inr (.inl (fun _ => 0)))), (q6, .inl (g.2.1 1, 22, .inr (.inl (fun _ => 0)))), (q7, .inl (g.2.1 0, 64, .inl (fun _ => 0))), (q8, .inl (g.2.1 0, 6, .inl (fun _ => 0))), (q9, .inl (g.2.1 0, 1016, .inl (fun _ => 0))), (q10, .inl (g.2.1 0, 127, .inl (fun _ => 0))), (q11, .inl (g.2.1 0, 8, .inl (fun _ => 0))), (q12, .inl (g.2.1 0, 448, .inl (fun _ => 0))), (q13, .inl (g.2.1 0, 6, .inl (fun _ => 0))), (q14, .inl (g.2.1 2, 48, .inl (fun _ => 0))), (q15, .inl (g.2.1 0, 4, .inl (fun _ => 0)))]) rfl ?_
  refine ny_putF (i := 0) (ws' := [(h0, .inr (12, [.int 0, .ref q1, .int 0, .int 0, .int 0, .int 0, .ref q2, .ref q3, .ref q4, .ref q5, .ref q6, .int 0, .int 0, .int 0, .int 0, .int 0, .int 0, .long 0, .int 0, .int 0, .ref q7, .ref q8, .ref q9, .ref q10, .int 0, .int 0, .int 0, .int 0, .int 0, .ref q11, .int (-1), .int 0, .int 0, .ref q12, .ref q13, .int (-1), .int 0, .ref q14, .int 0, .int 0, .int 0, .ref q15, .int 0, .null, .int 0, .int 0, .int 0, .int 0, .int 0, .null, .null, .null, .null])), (q1, .inl (g.2.1 2, 940, .inl (fun _ => 0))), (q2, .inl (g.2.1 0, 397, .inl (fun _ => 0))), (q3, .inl (g.2.1 0, 89, .inl (fun _ => 0))), (q4, .inl (g.2.1 0, 160, .inl (fun _ => 0))), (q5, .inl (g.2.1 1, 28, .inr (.inl (fun _ => 0)))), (q6, .inl (g.2.1 1, 22, .inr (.inl (fun _ => 0)))), (q7, .inl (g.2.1 0, 64, .inl (fun _ => 0))), (q8, .inl (g.2.1 0, 6, .inl (fun _ => 0))), (q9, .inl (g.2.1 0, 1016, .inl (fun _ => 0))), (q10, .inl (g.2.1 0, 127, .inl (fun _ => 0))), (q11, .inl (g.2.1 0, 8, .inl (fun _ => 0))), (q12, .inl (g.2.1 0, 448, .inl (fun _ => 0))), (q13, .inl (g.2.1 0, 6, .inl (fun _ => 0))), (q14, .inl (g.2.1 2, 48, .inl (fun _ => 0))), (q15, .inl (g.2.1 0, 4, .inl (fun _ => 0)))]) (pc' := 138) dX12_init_135 rfl fFX12_80 rfl rfl rfl rfl (Nat.le_of_ble_eq_true rfl) rfl ?_
  refine ny_aload_n 0 (pc' := 139) dX12_init_138 rfl rfl rfl ?_
  refine ny_bipush (pc' := 141) dX12_init_139 rfl kbipush_45 ?_
  refine ny_newI (N := 45) (pc' := 143) dX12_init_141 rfl wA0 (by decide) (by decide) (by decide) (Nat.le_of_ble_eq_true rfl) (Nat.le_of_ble_eq_true rfl) (fun q16 => ?_)
  refine ny_eq (ws' := [(h0, .inr (12, [.int 0, .ref q1, .int 0, .int 0, .int 0, .int 0, .ref q2, .ref q3, .ref q4, .ref q5, .ref q6, .int 0, .int 0, .int 0, .int 0, .int 0, .int 0, .long 0, .int 0, .int 0, .ref q7, .ref q8, .ref q9, .ref q10, .int 0, .int 0, .int 0, .int 0, .int 0, .ref q11, .int (-1), .int 0, .int 0, .ref q12, .ref q13, .int (-1), .int 0, .ref q14, .int 0, .int 0, .int 0, .ref q15, .int 0, .null, .int 0, .int 0, .int 0, .int 0, .int 0, .null, .null, .null, .null])), (q1, .inl (g.2.1 2, 940, .inl (fun _ => 0))), (q2, .inl (g.2.1 0, 397, .inl (fun _ => 0))), (q3, .inl (g.2.1 0, 89, .inl (fun _ => 0))), (q4, .inl (g.2.1 0, 160, .inl (fun _ => 0))), (q5, .inl (g.2.1 1, 28, .inr (.inl (fun _ => 0)))), (q6, .inl (g.2.1 1, 22, .inr (.inl (fun _ => 0)))), (q7, .inl (g.2.1 0, 64, .inl (fun _ => 0))), (q8, .inl (g.2.1 0, 6, .inl (fun _ => 0))), (q9, .inl (g.2.1 0, 1016, .inl (fun _ => 0))), (q10, .inl (g.2.1 0, 127, .inl (fun _ => 0))), (q11, .inl (g.2.1 0, 8, .inl (fun _ => 0))), (q12, .inl (g.2.1 0, 448, .inl (fun _ => 0))), (q13, .inl (g.2.1 0, 6, .inl (fun _ => 0))), (q14, .inl (g.2.1 2, 48, .inl (fun _ => 0))), (q15, .inl (g.2.1 0, 4, .inl (fun _ => 0))), (q16, .inl (g.2.1 0, 45, .inl (fun _ => 0)))]) rfl ?_
  refine ny_putF (i := 0) (ws' := [(h0, .inr (12, [.int 0, .ref q1, .int 0, .int 0, .int 0, .int 0, .ref q2, .ref q3, .ref q4, .ref q5, .ref q6, .int 0, .int 0, .int 0, .int 0, .int 0, .int 0, .long 0, .int 0, .int 0, .ref q7, .ref q8, .ref q9, .ref q10, .int 0, .int 0, .int 0, .int 0, .int 0, .ref q11, .int (-1), .int 0, .int 0, .ref q12, .ref q13, .int (-1), .int 0, .ref q14, .int 0, .int 0, .int 0, .ref q15, .int 0, .ref q16, .int 0, .int 0, .int 0, .int 0, .int 0, .null, .null, .null, .null])), (q1, .inl (g.2.1 2, 940, .inl (fun _ => 0))), (q2, .inl (g.2.1 0, 397, .inl (fun _ => 0))), (q3, .inl (g.2.1 0, 89, .inl (fun _ => 0))), (q4, .inl (g.2.1 0, 160, .inl (fun _ => 0))), (q5, .inl (g.2.1 1, 28, .inr (.inl (fun _ => 0)))), (q6, .inl (g.2.1 1, 22, .inr (.inl (fun _ => 0)))), (q7, .inl (g.2.1 0, 64, .inl (fun _ => 0))), (q8, .inl (g.2.1 0, 6, .inl (fun _ => 0))), (q9, .inl (g.2.1 0, 1016, .inl (fun _ => 0))), (q10, .inl (g.2.1 0, 127, .inl (fun _ => 0))), (q11, .inl (g.2.1 0, 8, .inl (fun _ => 0))), (q12, .inl (g.2.1 0, 448, .inl (fun _ => 0))), (q13, .inl (g.2.1 0, 6, .inl (fun _ => 0))), (q14, .inl (g.2.1 2, 48, .inl (fun _ => 0))), (q15, .inl (g.2.1 0, 4, .inl (fun _ => 0))), (q16, .inl (g.2.1 0, 45, .inl (fun _ => 0)))]) (pc' := 146) dX12_init_143 rfl fFX12_83 rfl rfl rfl rfl (Nat.le_of_ble_eq_true rfl) rfl ?_
  refine ny_aload_n 0 (pc' := 147) dX12_init_146 rfl rfl rfl ?_
  refine ny_bipush (pc' := 149) dX12_init_147 rfl kbipush_45 ?_
  refine ny_newZ (N := 45) (pc' := 151) dX12_init_149 rfl wA3 (by decide) (by decide) (by decide) (Nat.le_of_ble_eq_true rfl) (Nat.le_of_ble_eq_true rfl) (fun q17 => ?_)
  refine ny_eq (ws' := [(h0, .inr (12, [.int 0, .ref q1, .int 0, .int 0, .int 0, .int 0, .ref q2, .ref q3, .ref q4, .ref q5, .ref q6, .int 0, .int 0, .int 0, .int 0, .int 0, .int 0, .long 0, .int 0, .int 0, .ref q7, .ref q8, .ref q9, .ref q10, .int 0, .int 0, .int 0, .int 0, .int 0, .ref q11, .int (-1), .int 0, .int 0, .ref q12, .ref q13, .int (-1), .int 0, .ref q14, .int 0, .int 0, .int 0, .ref q15, .int 0, .ref q16, .int 0, .int 0, .int 0, .int 0, .int 0, .null, .null, .null, .null])), (q1, .inl (g.2.1 2, 940, .inl (fun _ => 0))), (q2, .inl (g.2.1 0, 397, .inl (fun _ => 0))), (q3, .inl (g.2.1 0, 89, .inl (fun _ => 0))), (q4, .inl (g.2.1 0, 160, .inl (fun _ => 0))), (q5, .inl (g.2.1 1, 28, .inr (.inl (fun _ => 0)))), (q6, .inl (g.2.1 1, 22, .inr (.inl (fun _ => 0)))), (q7, .inl (g.2.1 0, 64, .inl (fun _ => 0))), (q8, .inl (g.2.1 0, 6, .inl (fun _ => 0))), (q9, .inl (g.2.1 0, 1016, .inl (fun _ => 0))), (q10, .inl (g.2.1 0, 127, .inl (fun _ => 0))), (q11, .inl (g.2.1 0, 8, .inl (fun _ => 0))), (q12, .inl (g.2.1 0, 448, .inl (fun _ => 0))), (q13, .inl (g.2.1 0, 6, .inl (fun _ => 0))), (q14, .inl (g.2.1 2, 48, .inl (fun _ => 0))), (q15, .inl (g.2.1 0, 4, .inl (fun _ => 0))), (q16, .inl (g.2.1 0, 45, .inl (fun _ => 0))), (q17, .inl (g.2.1 3, 45, .inl (fun _ => 0)))]) rfl ?_
  refine ny_putF (i := 0) (ws' := [(h0, .inr (12, [.int 0, .ref q1, .int 0, .int 0, .int 0, .int 0, .ref q2, .ref q3, .ref q4, .ref q5, .ref q6, .int 0, .int 0, .int 0, .int 0, .int 0, .int 0, .long 0, .int 0, .int 0, .ref q7, .ref q8, .ref q9, .ref q10, .int 0, .int 0, .int 0, .int 0, .int 0, .ref q11, .int (-1), .int 0, .int 0, .ref q12, .ref q13, .int (-1), .int 0, .ref q14, .int 0, .int 0, .int 0, .ref q15, .int 0, .ref q16, .int 0, .int 0, .int 0, .int 0, .int 0, .ref q17, .null, .null, .null])), (q1, .inl (g.2.1 2, 940, .inl (fun _ => 0))), (q2, .inl (g.2.1 0, 397, .inl (fun _ => 0))), (q3, .inl (g.2.1 0, 89, .inl (fun _ => 0))), (q4, .inl (g.2.1 0, 160, .inl (fun _ => 0))), (q5, .inl (g.2.1 1, 28, .inr (.inl (fun _ => 0)))), (q6, .inl (g.2.1 1, 22, .inr (.inl (fun _ => 0)))), (q7, .inl (g.2.1 0, 64, .inl (fun _ => 0))), (q8, .inl (g.2.1 0, 6, .inl (fun _ => 0))), (q9, .inl (g.2.1 0, 1016, .inl (fun _ => 0))), (q10, .inl (g.2.1 0, 127, .inl (fun _ => 0))), (q11, .inl (g.2.1 0, 8, .inl (fun _ => 0))), (q12, .inl (g.2.1 0, 448, .inl (fun _ => 0))), (q13, .inl (g.2.1 0, 6, .inl (fun _ => 0))), (q14, .inl (g.2.1 2, 48, .inl (fun _ => 0))), (q15, .inl (g.2.1 0, 4, .inl (fun _ => 0))), (q16, .inl (g.2.1 0, 45, .inl (fun _ => 0))), (q17, .inl (g.2.1 3, 45, .inl (fun _ => 0)))]) (pc' := 154) dX12_init_151 rfl fFX12_86 rfl rfl rfl rfl (Nat.le_of_ble_eq_true rfl) rfl ?_
  refine ny_aload_n 0 (pc' := 155) dX12_init_154 rfl rfl rfl ?_
  refine ny_sipush (pc' := 158) dX12_init_155 rfl ksipush_794 ?_
  refine ny_newI (N := 794) (pc' := 160) dX12_init_158 rfl wA0 (by decide) (by decide) (by decide) (Nat.le_of_ble_eq_true rfl) (Nat.le_of_ble_eq_true rfl) (fun q18 => ?_)
  refine ny_eq (ws' := [(h0, .inr (12, [.int 0, .ref q1, .int 0, .int 0, .int 0, .int 0, .ref q2, .ref q3, .ref q4, .ref q5, .ref q6, .int 0, .int 0, .int 0, .int 0, .int 0, .int 0, .long 0, .int 0, .int 0, .ref q7, .ref q8, .ref q9, .ref q10, .int 0, .int 0, .int 0, .int 0, .int 0, .ref q11, .int (-1), .int 0, .int 0, .ref q12, .ref q13, .int (-1), .int 0, .ref q14, .int 0, .int 0, .int 0, .ref q15, .int 0, .ref q16, .int 0, .int 0, .int 0, .int 0, .int 0, .ref q17, .null, .null, .null])), (q1, .inl (g.2.1 2, 940, .inl (fun _ => 0))), (q2, .inl (g.2.1 0, 397, .inl (fun _ => 0))), (q3, .inl (g.2.1 0, 89, .inl (fun _ => 0))), (q4, .inl (g.2.1 0, 160, .inl (fun _ => 0))), (q5, .inl (g.2.1 1, 28, .inr (.inl (fun _ => 0)))), (q6, .inl (g.2.1 1, 22, .inr (.inl (fun _ => 0)))), (q7, .inl (g.2.1 0, 64, .inl (fun _ => 0))), (q8, .inl (g.2.1 0, 6, .inl (fun _ => 0))), (q9, .inl (g.2.1 0, 1016, .inl (fun _ => 0))), (q10, .inl (g.2.1 0, 127, .inl (fun _ => 0))), (q11, .inl (g.2.1 0, 8, .inl (fun _ => 0))), (q12, .inl (g.2.1 0, 448, .inl (fun _ => 0))), (q13, .inl (g.2.1 0, 6, .inl (fun _ => 0))), (q14, .inl (g.2.1 2, 48, .inl (fun _ => 0))), (q15, .inl (g.2.1 0, 4, .inl (fun _ => 0))), (q16, .inl (g.2.1 0, 45, .inl (fun _ => 0))), (q17, .inl (g.2.1 3, 45, .inl (fun _ => 0))), (q18, .inl (g.2.1 0, 794, .inl (fun _ => 0)))]) rfl ?_
  refine ny_putF (i := 0) (ws' := [(h0, .inr (12, [.int 0, .ref q1, .int 0, .int 0, .int 0, .int 0, .ref q2, .ref q3, .ref q4, .ref q5, .ref q6, .int 0, .int 0, .int 0, .int 0, .int 0, .int 0, .long 0, .int 0, .int 0, .ref q7, .ref q8, .ref q9, .ref q10, .int 0, .int 0, .int 0, .int 0, .int 0, .ref q11, .int (-1), .int 0, .int 0, .ref q12, .ref q13, .int (-1), .int 0, .ref q14, .int 0, .int 0, .int 0, .ref q15, .int 0, .ref q16, .int 0, .int 0, .int 0, .int 0, .int 0, .ref q17, .ref q18, .null, .null])), (q1, .inl (g.2.1 2, 940, .inl (fun _ => 0))), (q2, .inl (g.2.1 0, 397, .inl (fun _ => 0))), (q3, .inl (g.2.1 0, 89, .inl (fun _ => 0))), (q4, .inl (g.2.1 0, 160, .inl (fun _ => 0))), (q5, .inl (g.2.1 1, 28, .inr (.inl (fun _ => 0)))), (q6, .inl (g.2.1 1, 22, .inr (.inl (fun _ => 0)))), (q7, .inl (g.2.1 0, 64, .inl (fun _ => 0))), (q8, .inl (g.2.1 0, 6, .inl (fun _ => 0))), (q9, .inl (g.2.1 0, 1016, .inl (fun _ => 0))), (q10, .inl (g.2.1 0, 127, .inl (fun _ => 0))), (q11, .inl (g.2.1 0, 8, .inl (fun _ => 0))), (q12, .inl (g.2.1 0, 448, .inl (fun _ => 0))), (q13, .inl (g.2.1 0, 6, .inl (fun _ => 0))), (q14, .inl (g.2.1 2, 48, .inl (fun _ => 0))), (q15, .inl (g.2.1 0, 4, .inl (fun _ => 0))), (q16, .inl (g.2.1 0, 45, .inl (fun _ => 0))), (q17, .inl (g.2.1 3, 45, .inl (fun _ => 0))), (q18, .inl (g.2.1 0, 794, .inl (fun _ => 0)))]) (pc' := 163) dX12_init_160 rfl fFX12_90 rfl rfl rfl rfl (Nat.le_of_ble_eq_true rfl) rfl ?_
  refine ny_aload_n 0 (pc' := 164) dX12_init_163 rfl rfl rfl ?_
  refine ny_bipush (pc' := 166) dX12_init_164 rfl kbipush_28 ?_
  refine ny_newL (N := 28) (pc' := 168) dX12_init_166 rfl wA1 (by decide) (by decide) (by decide) (Nat.le_of_ble_eq_true rfl) (Nat.le_of_ble_eq_true rfl) (fun q19 => ?_)
  refine ny_eq (ws' := [(h0, .inr (12, [.int 0, .ref q1, .int 0, .int 0, .int 0, .int 0, .ref q2, .ref q3, .ref q4, .ref q5, .ref q6, .int 0, .int 0, .int 0, .int 0, .int 0, .int 0, .long 0, .int 0, .int 0, .ref q7, .ref q8, .ref q9, .ref q10, .int 0, .int 0, .int 0, .int 0, .int 0, .ref q11, .int (-1), .int 0, .int 0, .ref q12, .ref q13, .int (-1), .int 0, .ref q14, .int 0, .int 0, .int 0, .ref q15, .int 0, .ref q16, .int 0, .int 0, .int 0, .int 0, .int 0, .ref q17, .ref q18, .null, .null])), (q1, .inl (g.2.1 2, 940, .inl (fun _ => 0))), (q2, .inl (g.2.1 0, 397, .inl (fun _ => 0))), (q3, .inl (g.2.1 0, 89, .inl (fun _ => 0))), (q4, .inl (g.2.1 0, 160, .inl (fun _ => 0))), (q5, .inl (g.2.1 1, 28, .inr (.inl (fun _ => 0)))), (q6, .inl (g.2.1 1, 22, .inr (.inl (fun _ => 0)))), (q7, .inl (g.2.1 0, 64, .inl (fun _ => 0))), (q8, .inl (g.2.1 0, 6, .inl (fun _ => 0))), (q9, .inl (g.2.1 0, 1016, .inl (fun _ => 0))), (q10, .inl (g.2.1 0, 127, .inl (fun _ => 0))), (q11, .inl (g.2.1 0, 8, .inl (fun _ => 0))), (q12, .inl (g.2.1 0, 448, .inl (fun _ => 0))), (q13, .inl (g.2.1 0, 6, .inl (fun _ => 0))), (q14, .inl (g.2.1 2, 48, .inl (fun _ => 0))), (q15, .inl (g.2.1 0, 4, .inl (fun _ => 0))), (q16, .inl (g.2.1 0, 45, .inl (fun _ => 0))), (q17, .inl (g.2.1 3, 45, .inl (fun _ => 0))), (q18, .inl (g.2.1 0, 794, .inl (fun _ => 0))), (q19, .inl (g.2.1 1, 28, .inr (.inl (fun _ => 0))))]) rfl ?_
  refine ny_putF (i := 0) (ws' := [(h0, .inr (12, [.int 0, .ref q1, .int 0, .int 0, .int 0, .int 0, .ref q2, .ref q3, .ref q4, .ref q5, .ref q6, .int 0, .int 0, .int 0, .int 0, .int 0, .int 0, .long 0, .int 0, .int 0, .ref q7, .ref q8, .ref q9, .ref q10, .int 0, .int 0, .int 0, .int 0, .int 0, .ref q11, .int (-1), .int 0, .int 0, .ref q12, .ref q13, .int (-1), .int 0, .ref q14, .int 0, .int 0, .int 0, .ref q15, .int 0, .ref q16, .int 0, .int 0, .int 0, .int 0, .int 0, .ref q17, .ref q18, .ref q19, .null])), (q1, .inl (g.2.1 2, 940, .inl (fun _ => 0))), (q2, .inl (g.2.1 0, 397, .inl (fun _ => 0))), (q3, .inl (g.2.1 0, 89, .inl (fun _ => 0))), (q4, .inl (g.2.1 0, 160, .inl (fun _ => 0))), (q5, .inl (g.2.1 1, 28, .inr (.inl (fun _ => 0)))), (q6, .inl (g.2.1 1, 22, .inr (.inl (fun _ => 0)))), (q7, .inl (g.2.1 0, 64, .inl (fun _ => 0))), (q8, .inl (g.2.1 0, 6, .inl (fun _ => 0))), (q9, .inl (g.2.1 0, 1016, .inl (fun _ => 0))), (q10, .inl (g.2.1 0, 127, .inl (fun _ => 0))), (q11, .inl (g.2.1 0, 8, .inl (fun _ => 0))), (q12, .inl (g.2.1 0, 448, .inl (fun _ => 0))), (q13, .inl (g.2.1 0, 6, .inl (fun _ => 0))), (q14, .inl (g.2.1 2, 48, .inl (fun _ => 0))), (q15, .inl (g.2.1 0, 4, .inl (fun _ => 0))), (q16, .inl (g.2.1 0, 45, .inl (fun _ => 0))), (q17, .inl (g.2.1 3, 45, .inl (fun _ => 0))), (q18, .inl (g.2.1 0, 794, .inl (fun _ => 0))), (q19, .inl (g.2.1 1, 28, .inr (.inl (fun _ => 0))))]) (pc' := 171) dX12_init_168 rfl fFX12_93 rfl rfl rfl rfl (Nat.le_of_ble_eq_true rfl) rfl ?_
  refine ny_aload_n 0 (pc' := 172) dX12_init_171 rfl rfl rfl ?_
  refine ny_iconst (pc' := 173) dX12_init_172 rfl kiconst_2 ?_
  refine ny_newZ (N := 2) (pc' := 175) dX12_init_173 rfl wA3 (by decide) (by decide) (by decide) (Nat.le_of_ble_eq_true rfl) (Nat.le_of_ble_eq_true rfl) (fun q20 => ?_)
  refine ny_eq (ws' := [(h0, .inr (12, [.int 0, .ref q1, .int 0, .int 0, .int 0, .int 0, .ref q2, .ref q3, .ref q4, .ref q5, .ref q6, .int 0, .int 0, .int 0, .int 0, .int 0, .int 0, .long 0, .int 0, .int 0, .ref q7, .ref q8, .ref q9, .ref q10, .int 0, .int 0, .int 0, .int 0, .int 0, .ref q11, .int (-1), .int 0, .int 0, .ref q12, .ref q13, .int (-1), .int 0, .ref q14, .int 0, .int 0, .int 0, .ref q15, .int 0, .ref q16, .int 0, .int 0, .int 0, .int 0, .int 0, .ref q17, .ref q18, .ref q19, .null])), (q1, .inl (g.2.1 2, 940, .inl (fun _ => 0))), (q2, .inl (g.2.1 0, 397, .inl (fun _ => 0))), (q3, .inl (g.2.1 0, 89, .inl (fun _ => 0))), (q4, .inl (g.2.1 0, 160, .inl (fun _ => 0))), (q5, .inl (g.2.1 1, 28, .inr (.inl (fun _ => 0)))), (q6, .inl (g.2.1 1, 22, .inr (.inl (fun _ => 0)))), (q7, .inl (g.2.1 0, 64, .inl (fun _ => 0))), (q8, .inl (g.2.1 0, 6, .inl (fun _ => 0))), (q9, .inl (g.2.1 0, 1016, .inl (fun _ => 0))), (q10, .inl (g.2.1 0, 127, .inl (fun _ => 0))), (q11, .inl (g.2.1 0, 8, .inl (fun _ => 0))), (q12, .inl (g.2.1 0, 448, .inl (fun _ => 0))), (q13, .inl (g.2.1 0, 6, .inl (fun _ => 0))), (q14, .inl (g.2.1 2, 48, .inl (fun _ => 0))), (q15, .inl (g.2.1 0, 4, .inl (fun _ => 0))), (q16, .inl (g.2.1 0, 45, .inl (fun _ => 0))), (q17, .inl (g.2.1 3, 45, .inl (fun _ => 0))), (q18, .inl (g.2.1 0, 794, .inl (fun _ => 0))), (q19, .inl (g.2.1 1, 28, .inr (.inl (fun _ => 0)))), (q20, .inl (g.2.1 3, 2, .inl (fun _ => 0)))]) rfl ?_
  refine ny_putF (i := 0) (ws' := [(h0, .inr (12, [.int 0, .ref q1, .int 0, .int 0, .int 0, .int 0, .ref q2, .ref q3, .ref q4, .ref q5, .ref q6, .int 0, .int 0, .int 0, .int 0, .int 0, .int 0, .long 0, .int 0, .int 0, .ref q7, .ref q8, .ref q9, .ref q10, .int 0, .int 0, .int 0, .int 0, .int 0, .ref q11, .int (-1), .int 0, .int 0, .ref q12, .ref q13, .int (-1), .int 0, .ref q14, .int 0, .int 0, .int 0, .ref q15, .int 0, .ref q16, .int 0, .int 0, .int 0, .int 0, .int 0, .ref q17, .ref q18, .ref q19, .ref q20])), (q1, .inl (g.2.1 2, 940, .inl (fun _ => 0))), (q2, .inl (g.2.1 0, 397, .inl (fun _ => 0))), (q3, .inl (g.2.1 0, 89, .inl (fun _ => 0))), (q4, .inl (g.2.1 0, 160, .inl (fun _ => 0))), (q5, .inl (g.2.1 1, 28, .inr (.inl (fun _ => 0)))), (q6, .inl (g.2.1 1, 22, .inr (.inl (fun _ => 0)))), (q7, .inl (g.2.1 0, 64, .inl (fun _ => 0))), (q8, .inl (g.2.1 0, 6, .inl (fun _ => 0))), (q9, .inl (g.2.1 0, 1016, .inl (fun _ => 0))), (q10, .inl (g.2.1 0, 127, .inl (fun _ => 0))), (q11, .inl (g.2.1 0, 8, .inl (fun _ => 0))), (q12, .inl (g.2.1 0, 448, .inl (fun _ => 0))), (q13, .inl (g.2.1 0, 6, .inl (fun _ => 0))), (q14, .inl (g.2.1 2, 48, .inl (fun _ => 0))), (q15, .inl (g.2.1 0, 4, .inl (fun _ => 0))), (q16, .inl (g.2.1 0, 45, .inl (fun _ => 0))), (q17, .inl (g.2.1 3, 45, .inl (fun _ => 0))), (q18, .inl (g.2.1 0, 794, .inl (fun _ => 0))), (q19, .inl (g.2.1 1, 28, .inr (.inl (fun _ => 0)))), (q20, .inl (g.2.1 3, 2, .inl (fun _ => 0)))]) (pc' := 178) dX12_init_175 rfl fFX12_96 rfl rfl rfl rfl (Nat.le_of_ble_eq_true rfl) rfl ?_
  refine ny_aload_n 0 (pc' := 179) dX12_init_178 rfl rfl rfl ?_
  refine ny_get (i := 0) (pc' := 182) dX12_init_179 rfl flX12_47 rfl rfl ?_
  refine ny_iconst (pc' := 183) dX12_init_182 rfl kiconst_0 ?_
  refine ny_ldc2 (pc' := 186) dX12_init_183 rfl cL1390 ?_
  refine ny_last (i := 6) (ws' := [(h0, .inr (12, [.int 0, .ref q1, .int 0, .int 0, .int 0, .int 0, .ref q2, .ref q3, .ref q4, .ref q5, .ref q6, .int 0, .int 0, .int 0, .int 0, .int 0, .int 0, .long 0, .int 0, .int 0, .ref q7, .ref q8, .ref q9, .ref q10, .int 0, .int 0, .int 0, .int 0, .int 0, .ref q11, .int (-1), .int 0, .int 0, .ref q12, .ref q13, .int (-1), .int 0, .ref q14, .int 0, .int 0, .int 0, .ref q15, .int 0, .ref q16, .int 0, .int 0, .int 0, .int 0, .int 0, .ref q17, .ref q18, .ref q19, .ref q20])), (q1, .inl (g.2.1 2, 940, .inl (fun _ => 0))), (q2, .inl (g.2.1 0, 397, .inl (fun _ => 0))), (q3, .inl (g.2.1 0, 89, .inl (fun _ => 0))), (q4, .inl (g.2.1 0, 160, .inl (fun _ => 0))), (q5, .inl (g.2.1 1, 28, .inr (.inl (fun _ => 0)))), (q6, .inl (g.2.1 1, 22, .inr (.inl (vp_updL (fun _ => 0) 0 109330312357234)))), (q7, .inl (g.2.1 0, 64, .inl (fun _ => 0))), (q8, .inl (g.2.1 0, 6, .inl (fun _ => 0))), (q9, .inl (g.2.1 0, 1016, .inl (fun _ => 0))), (q10, .inl (g.2.1 0, 127, .inl (fun _ => 0))), (q11, .inl (g.2.1 0, 8, .inl (fun _ => 0))), (q12, .inl (g.2.1 0, 448, .inl (fun _ => 0))), (q13, .inl (g.2.1 0, 6, .inl (fun _ => 0))), (q14, .inl (g.2.1 2, 48, .inl (fun _ => 0))), (q15, .inl (g.2.1 0, 4, .inl (fun _ => 0))), (q16, .inl (g.2.1 0, 45, .inl (fun _ => 0))), (q17, .inl (g.2.1 3, 45, .inl (fun _ => 0))), (q18, .inl (g.2.1 0, 794, .inl (fun _ => 0))), (q19, .inl (g.2.1 1, 28, .inr (.inl (fun _ => 0)))), (q20, .inl (g.2.1 3, 2, .inl (fun _ => 0)))]) (pc' := 187) dX12_init_186 rfl rfl (zin_in (by decide)) rfl ?_
  refine ny_aload_n 0 (pc' := 188) dX12_init_187 rfl rfl rfl ?_
  refine ny_get (i := 0) (pc' := 191) dX12_init_188 rfl flX12_47 rfl rfl ?_
  refine ny_iconst (pc' := 192) dX12_init_191 rfl kiconst_1 ?_
  refine ny_ldc2 (pc' := 195) dX12_init_192 rfl cL1391 ?_
  refine ny_last (i := 6) (ws' := [(h0, .inr (12, [.int 0, .ref q1, .int 0, .int 0, .int 0, .int 0, .ref q2, .ref q3, .ref q4, .ref q5, .ref q6, .int 0, .int 0, .int 0, .int 0, .int 0, .int 0, .long 0, .int 0, .int 0, .ref q7, .ref q8, .ref q9, .ref q10, .int 0, .int 0, .int 0, .int 0, .int 0, .ref q11, .int (-1), .int 0, .int 0, .ref q12, .ref q13, .int (-1), .int 0, .ref q14, .int 0, .int 0, .int 0, .ref q15, .int 0, .ref q16, .int 0, .int 0, .int 0, .int 0, .int 0, .ref q17, .ref q18, .ref q19, .ref q20])), (q1, .inl (g.2.1 2, 940, .inl (fun _ => 0))), (q2, .inl (g.2.1 0, 397, .inl (fun _ => 0))), (q3, .inl (g.2.1 0, 89, .inl (fun _ => 0))), (q4, .inl (g.2.1 0, 160, .inl (fun _ => 0))), (q5, .inl (g.2.1 1, 28, .inr (.inl (fun _ => 0)))), (q6, .inl (g.2.1 1, 22, .inr (.inl (vp_updL (vp_updL (fun _ => 0) 0 109330312357234) 1 126943972648308)))), (q7, .inl (g.2.1 0, 64, .inl (fun _ => 0))), (q8, .inl (g.2.1 0, 6, .inl (fun _ => 0))), (q9, .inl (g.2.1 0, 1016, .inl (fun _ => 0))), (q10, .inl (g.2.1 0, 127, .inl (fun _ => 0))), (q11, .inl (g.2.1 0, 8, .inl (fun _ => 0))), (q12, .inl (g.2.1 0, 448, .inl (fun _ => 0))), (q13, .inl (g.2.1 0, 6, .inl (fun _ => 0))), (q14, .inl (g.2.1 2, 48, .inl (fun _ => 0))), (q15, .inl (g.2.1 0, 4, .inl (fun _ => 0))), (q16, .inl (g.2.1 0, 45, .inl (fun _ => 0))), (q17, .inl (g.2.1 3, 45, .inl (fun _ => 0))), (q18, .inl (g.2.1 0, 794, .inl (fun _ => 0))), (q19, .inl (g.2.1 1, 28, .inr (.inl (fun _ => 0)))), (q20, .inl (g.2.1 3, 2, .inl (fun _ => 0)))]) (pc' := 196) dX12_init_195 rfl rfl (zin_in (by decide)) rfl ?_
  refine ny_aload_n 0 (pc' := 197) dX12_init_196 rfl rfl rfl ?_
  refine ny_get (i := 0) (pc' := 200) dX12_init_197 rfl flX12_47 rfl rfl ?_
  refine ny_iconst (pc' := 201) dX12_init_200 rfl kiconst_2 ?_
  refine ny_ldc2 (pc' := 204) dX12_init_201 rfl cL1392 ?_
  refine ny_last (i := 6) (ws' := [(h0, .inr (12, [.int 0, .ref q1, .int 0, .int 0, .int 0, .int 0, .ref q2, .ref q3, .ref q4, .ref q5, .ref q6, .int 0, .int 0, .int 0, .int 0, .int 0, .int 0, .long 0, .int 0, .int 0, .ref q7, .ref q8, .ref q9, .ref q10, .int 0, .int 0, .int 0, .int 0, .int 0, .ref q11, .int (-1), .int 0, .int 0, .ref q12, .ref q13, .int (-1), .int 0, .ref q14, .int 0, .int 0, .int 0, .ref q15, .int 0, .ref q16, .int 0, .int 0, .int 0, .int 0, .int 0, .ref q17, .ref q18, .ref q19, .ref q20])), (q1, .inl (g.2.1 2, 940, .inl (fun _ => 0))), (q2, .inl (g.2.1 0, 397, .inl (fun _ => 0))), (q3, .inl (g.2.1 0, 89, .inl (fun _ => 0))), (q4, .inl (g.2.1 0, 160, .inl (fun _ => 0))), (q5, .inl (g.2.1 1, 28, .inr (.inl (fun _ => 0)))), (q6, .inl (g.2.1 1, 22, .inr (.inl (vp_updL (vp_updL (vp_updL (fun _ => 0) 0 109330312357234) 1 126943972648308) 2 123581014175598)))), (q7, .inl (g.2.1 0, 64, .inl (fun _ => 0))), (q8, .inl (g.2.1 0, 6, .inl (fun _ => 0))), (q9, .inl (g.2.1 0, 1016, .inl (fun _ => 0))), (q10, .inl (g.2.1 0, 127, .inl (fun _ => 0))), (q11, .inl (g.2.1 0, 8, .inl (fun _ => 0))), (q12, .inl (g.2.1 0, 448, .inl (fun _ => 0))), (q13, .inl (g.2.1 0, 6, .inl (fun _ => 0))), (q14, .inl (g.2.1 2, 48, .inl (fun _ => 0))), (q15, .inl (g.2.1 0, 4, .inl (fun _ => 0))), (q16, .inl (g.2.1 0, 45, .inl (fun _ => 0))), (q17, .inl (g.2.1 3, 45, .inl (fun _ => 0))), (q18, .inl (g.2.1 0, 794, .inl (fun _ => 0))), (q19, .inl (g.2.1 1, 28, .inr (.inl (fun _ => 0)))), (q20, .inl (g.2.1 3, 2, .inl (fun _ => 0)))]) (pc' := 205) dX12_init_204 rfl rfl (zin_in (by decide)) rfl ?_
  refine ny_aload_n 0 (pc' := 206) dX12_init_205 rfl rfl rfl ?_
  refine ny_get (i := 0) (pc' := 209) dX12_init_206 rfl flX12_47 rfl rfl ?_
  refine ny_iconst (pc' := 210) dX12_init_209 rfl kiconst_3 ?_
  refine ny_ldc2 (pc' := 213) dX12_init_210 rfl cL1393 ?_
  refine ny_last (i := 6) (ws' := [(h0, .inr (12, [.int 0, .ref q1, .int 0, .int 0, .int 0, .int 0, .ref q2, .ref q3, .ref q4, .ref q5, .ref q6, .int 0, .int 0, .int 0, .int 0, .int 0, .int 0, .long 0, .int 0, .int 0, .ref q7, .ref q8, .ref q9, .ref q10, .int 0, .int 0, .int 0, .int 0, .int 0, .ref q11, .int (-1), .int 0, .int 0, .ref q12, .ref q13, .int (-1), .int 0, .ref q14, .int 0, .int 0, .int 0, .ref q15, .int 0, .ref q16, .int 0, .int 0, .int 0, .int 0, .int 0, .ref q17, .ref q18, .ref q19, .ref q20])), (q1, .inl (g.2.1 2, 940, .inl (fun _ => 0))), (q2, .inl (g.2.1 0, 397, .inl (fun _ => 0))), (q3, .inl (g.2.1 0, 89, .inl (fun _ => 0))), (q4, .inl (g.2.1 0, 160, .inl (fun _ => 0))), (q5, .inl (g.2.1 1, 28, .inr (.inl (fun _ => 0)))), (q6, .inl (g.2.1 1, 22, .inr (.inl (vp_updL (vp_updL (vp_updL (vp_updL (fun _ => 0) 0 109330312357234) 1 126943972648308) 2 123581014175598) 3 1852143732)))), (q7, .inl (g.2.1 0, 64, .inl (fun _ => 0))), (q8, .inl (g.2.1 0, 6, .inl (fun _ => 0))), (q9, .inl (g.2.1 0, 1016, .inl (fun _ => 0))), (q10, .inl (g.2.1 0, 127, .inl (fun _ => 0))), (q11, .inl (g.2.1 0, 8, .inl (fun _ => 0))), (q12, .inl (g.2.1 0, 448, .inl (fun _ => 0))), (q13, .inl (g.2.1 0, 6, .inl (fun _ => 0))), (q14, .inl (g.2.1 2, 48, .inl (fun _ => 0))), (q15, .inl (g.2.1 0, 4, .inl (fun _ => 0))), (q16, .inl (g.2.1 0, 45, .inl (fun _ => 0))), (q17, .inl (g.2.1 3, 45, .inl (fun _ => 0))), (q18, .inl (g.2.1 0, 794, .inl (fun _ => 0))), (q19, .inl (g.2.1 1, 28, .inr (.inl (fun _ => 0)))), (q20, .inl (g.2.1 3, 2, .inl (fun _ => 0)))]) (pc' := 214) dX12_init_213 rfl rfl (zin_in (by decide)) rfl ?_
  refine ny_aload_n 0 (pc' := 215) dX12_init_214 rfl rfl rfl ?_
  refine ny_get (i := 0) (pc' := 218) dX12_init_215 rfl flX12_47 rfl rfl ?_
  refine ny_iconst (pc' := 219) dX12_init_218 rfl kiconst_4 ?_
  refine ny_ldc2 (pc' := 222) dX12_init_219 rfl cL1394 ?_
  refine ny_last (i := 6) (ws' := [(h0, .inr (12, [.int 0, .ref q1, .int 0, .int 0, .int 0, .int 0, .ref q2, .ref q3, .ref q4, .ref q5, .ref q6, .int 0, .int 0, .int 0, .int 0, .int 0, .int 0, .long 0, .int 0, .int 0, .ref q7, .ref q8, .ref q9, .ref q10, .int 0, .int 0, .int 0, .int 0, .int 0, .ref q11, .int (-1), .int 0, .int 0, .ref q12, .ref q13, .int (-1), .int 0, .ref q14, .int 0, .int 0, .int 0, .ref q15, .int 0, .ref q16, .int 0, .int 0, .int 0, .int 0, .int 0, .ref q17, .ref q18, .ref q19, .ref q20])), (q1, .inl (g.2.1 2, 940, .inl (fun _ => 0))), (q2, .inl (g.2.1 0, 397, .inl (fun _ => 0))), (q3, .inl (g.2.1 0, 89, .inl (fun _ => 0))), (q4, .inl (g.2.1 0, 160, .inl (fun _ => 0))), (q5, .inl (g.2.1 1, 28, .inr (.inl (fun _ => 0)))), (q6, .inl (g.2.1 1, 22, .inr (.inl (vp_updL (vp_updL (vp_updL (vp_updL (vp_updL (fun _ => 0) 0 109330312357234) 1 126943972648308) 2 123581014175598) 3 1852143732) 4 28832959090882419)))), (q7, .inl (g.2.1 0, 64, .inl (fun _ => 0))), (q8, .inl (g.2.1 0, 6, .inl (fun _ => 0))), (q9, .inl (g.2.1 0, 1016, .inl (fun _ => 0))), (q10, .inl (g.2.1 0, 127, .inl (fun _ => 0))), (q11, .inl (g.2.1 0, 8, .inl (fun _ => 0))), (q12, .inl (g.2.1 0, 448, .inl (fun _ => 0))), (q13, .inl (g.2.1 0, 6, .inl (fun _ => 0))), (q14, .inl (g.2.1 2, 48, .inl (fun _ => 0))), (q15, .inl (g.2.1 0, 4, .inl (fun _ => 0))), (q16, .inl (g.2.1 0, 45, .inl (fun _ => 0))), (q17, .inl (g.2.1 3, 45, .inl (fun _ => 0))), (q18, .inl (g.2.1 0, 794, .inl (fun _ => 0))), (q19, .inl (g.2.1 1, 28, .inr (.inl (fun _ => 0)))), (q20, .inl (g.2.1 3, 2, .inl (fun _ => 0)))]) (pc' := 223) dX12_init_222 rfl rfl (zin_in (by decide)) rfl ?_
  refine ny_aload_n 0 (pc' := 224) dX12_init_223 rfl rfl rfl ?_
  refine ny_get (i := 0) (pc' := 227) dX12_init_224 rfl flX12_47 rfl rfl ?_
  refine ny_iconst (pc' := 228) dX12_init_227 rfl kiconst_5 ?_
  refine ny_ldc2 (pc' := 231) dX12_init_228 rfl cL1395 ?_
  refine ny_last (i := 6) (ws' := [(h0, .inr (12, [.int 0, .ref q1, .int 0, .int 0, .int 0, .int 0, .ref q2, .ref q3, .ref q4, .ref q5, .ref q6, .int 0, .int 0, .int 0, .int 0, .int 0, .int 0, .long 0, .int 0, .int 0, .ref q7, .ref q8, .ref q9, .ref q10, .int 0, .int 0, .int 0, .int 0, .int 0, .ref q11, .int (-1), .int 0, .int 0, .ref q12, .ref q13, .int (-1), .int 0, .ref q14, .int 0, .int 0, .int 0, .ref q15, .int 0, .ref q16, .int 0, .int 0, .int 0, .int 0, .int 0, .ref q17, .ref q18, .ref q19, .ref q20])), (q1, .inl (g.2.1 2, 940, .inl (fun _ => 0))), (q2, .inl (g.2.1 0, 397, .inl (fun _ => 0))), (q3, .inl (g.2.1 0, 89, .inl (fun _ => 0))), (q4, .inl (g.2.1 0, 160, .inl (fun _ => 0))), (q5, .inl (g.2.1 1, 28, .inr (.inl (fun _ => 0)))), (q6, .inl (g.2.1 1, 22, .inr (.inl (vp_updL (vp_updL (vp_updL (vp_updL (vp_updL (vp_updL (fun _ => 0) 0 109330312357234) 1 126943972648308) 2 123581014175598) 3 1852143732) 4 28832959090882419) 5 1735353715)))), (q7, .inl (g.2.1 0, 64, .inl (fun _ => 0))), (q8, .inl (g.2.1 0, 6, .inl (fun _ => 0))), (q9, .inl (g.2.1 0, 1016, .inl (fun _ => 0))), (q10, .inl (g.2.1 0, 127, .inl (fun _ => 0))), (q11, .inl (g.2.1 0, 8, .inl (fun _ => 0))), (q12, .inl (g.2.1 0, 448, .inl (fun _ => 0))), (q13, .inl (g.2.1 0, 6, .inl (fun _ => 0))), (q14, .inl (g.2.1 2, 48, .inl (fun _ => 0))), (q15, .inl (g.2.1 0, 4, .inl (fun _ => 0))), (q16, .inl (g.2.1 0, 45, .inl (fun _ => 0))), (q17, .inl (g.2.1 3, 45, .inl (fun _ => 0))), (q18, .inl (g.2.1 0, 794, .inl (fun _ => 0))), (q19, .inl (g.2.1 1, 28, .inr (.inl (fun _ => 0)))), (q20, .inl (g.2.1 3, 2, .inl (fun _ => 0)))]) (pc' := 232) dX12_init_231 rfl rfl (zin_in (by decide)) rfl ?_
  refine ny_aload_n 0 (pc' := 233) dX12_init_232 rfl rfl rfl ?_
  refine ny_get (i := 0) (pc' := 236) dX12_init_233 rfl flX12_47 rfl rfl ?_
  refine ny_bipush (pc' := 238) dX12_init_236 rfl kbipush_6 ?_
  refine ny_ldc2 (pc' := 241) dX12_init_238 rfl cL1396 ?_
  refine ny_last (i := 6) (ws' := [(h0, .inr (12, [.int 0, .ref q1, .int 0, .int 0, .int 0, .int 0, .ref q2, .ref q3, .ref q4, .ref q5, .ref q6, .int 0, .int 0, .int 0, .int 0, .int 0, .int 0, .long 0, .int 0, .int 0, .ref q7, .ref q8, .ref q9, .ref q10, .int 0, .int 0, .int 0, .int 0, .int 0, .ref q11, .int (-1), .int 0, .int 0, .ref q12, .ref q13, .int (-1), .int 0, .ref q14, .int 0, .int 0, .int 0, .ref q15, .int 0, .ref q16, .int 0, .int 0, .int 0, .int 0, .int 0, .ref q17, .ref q18, .ref q19, .ref q20])), (q1, .inl (g.2.1 2, 940, .inl (fun _ => 0))), (q2, .inl (g.2.1 0, 397, .inl (fun _ => 0))), (q3, .inl (g.2.1 0, 89, .inl (fun _ => 0))), (q4, .inl (g.2.1 0, 160, .inl (fun _ => 0))), (q5, .inl (g.2.1 1, 28, .inr (.inl (fun _ => 0)))), (q6, .inl (g.2.1 1, 22, .inr (.inl (vp_updL (vp_updL (vp_updL (vp_updL (vp_updL (vp_updL (vp_updL (fun _ => 0) 0 109330312357234) 1 126943972648308) 2 123581014175598) 3 1852143732) 4 28832959090882419) 5 1735353715) 6 431416635507)))), (q7, .inl (g.2.1 0, 64, .inl (fun _ => 0))), (q8, .inl (g.2.1 0, 6, .inl (fun _ => 0))), (q9, .inl (g.2.1 0, 1016, .inl (fun _ => 0))), (q10, .inl (g.2.1 0, 127, .inl (fun _ => 0))), (q11, .inl (g.2.1 0, 8, .inl (fun _ => 0))), (q12, .inl (g.2.1 0, 448, .inl (fun _ => 0))), (q13, .inl (g.2.1 0, 6, .inl (fun _ => 0))), (q14, .inl (g.2.1 2, 48, .inl (fun _ => 0))), (q15, .inl (g.2.1 0, 4, .inl (fun _ => 0))), (q16, .inl (g.2.1 0, 45, .inl (fun _ => 0))), (q17, .inl (g.2.1 3, 45, .inl (fun _ => 0))), (q18, .inl (g.2.1 0, 794, .inl (fun _ => 0))), (q19, .inl (g.2.1 1, 28, .inr (.inl (fun _ => 0)))), (q20, .inl (g.2.1 3, 2, .inl (fun _ => 0)))]) (pc' := 242) dX12_init_241 rfl rfl (zin_in (by decide)) rfl ?_
  refine ny_aload_n 0 (pc' := 243) dX12_init_242 rfl rfl rfl ?_
  refine ny_get (i := 0) (pc' := 246) dX12_init_243 rfl flX12_47 rfl rfl ?_
  refine ny_bipush (pc' := 248) dX12_init_246 rfl kbipush_7 ?_
  refine ny_ldc2 (pc' := 251) dX12_init_248 rfl cL1397 ?_
  refine ny_last (i := 6) (ws' := [(h0, .inr (12, [.int 0, .ref q1, .int 0, .int 0, .int 0, .int 0, .ref q2, .ref q3, .ref q4, .ref q5, .ref q6, .int 0, .int 0, .int 0, .int 0, .int 0, .int 0, .long 0, .int 0, .int 0, .ref q7, .ref q8, .ref q9, .ref q10, .int 0, .int 0, .int 0, .int 0, .int 0, .ref q11, .int (-1), .int 0, .int 0, .ref q12, .ref q13, .int (-1), .int 0, .ref q14, .int 0, .int 0, .int 0, .ref q15, .int 0, .ref q16, .int 0, .int 0, .int 0, .int 0, .int 0, .ref q17, .ref q18, .ref q19, .ref q20])), (q1, .inl (g.2.1 2, 940, .inl (fun _ => 0))), (q2, .inl (g.2.1 0, 397, .inl (fun _ => 0))), (q3, .inl (g.2.1 0, 89, .inl (fun _ => 0))), (q4, .inl (g.2.1 0, 160, .inl (fun _ => 0))), (q5, .inl (g.2.1 1, 28, .inr (.inl (fun _ => 0)))), (q6, .inl (g.2.1 1, 22, .inr (.inl (vp_updL (vp_updL (vp_updL (vp_updL (vp_updL (vp_updL (vp_updL (vp_updL (fun _ => 0) 0 109330312357234) 1 126943972648308) 2 123581014175598) 3 1852143732) 4 28832959090882419) 5 1735353715) 6 431416635507) 7 119182682645875)))), (q7, .inl (g.2.1 0, 64, .inl (fun _ => 0))), (q8, .inl (g.2.1 0, 6, .inl (fun _ => 0))), (q9, .inl (g.2.1 0, 1016, .inl (fun _ => 0))), (q10, .inl (g.2.1 0, 127, .inl (fun _ => 0))), (q11, .inl (g.2.1 0, 8, .inl (fun _ => 0))), (q12, .inl (g.2.1 0, 448, .inl (fun _ => 0))), (q13, .inl (g.2.1 0, 6, .inl (fun _ => 0))), (q14, .inl (g.2.1 2, 48, .inl (fun _ => 0))), (q15, .inl (g.2.1 0, 4, .inl (fun _ => 0))), (q16, .inl (g.2.1 0, 45, .inl (fun _ => 0))), (q17, .inl (g.2.1 3, 45, .inl (fun _ => 0))), (q18, .inl (g.2.1 0, 794, .inl (fun _ => 0))), (q19, .inl (g.2.1 1, 28, .inr (.inl (fun _ => 0)))), (q20, .inl (g.2.1 3, 2, .inl (fun _ => 0)))]) (pc' := 252) dX12_init_251 rfl rfl (zin_in (by decide)) rfl ?_
  refine ny_aload_n 0 (pc' := 253) dX12_init_252 rfl rfl rfl ?_
  refine ny_get (i := 0) (pc' := 256) dX12_init_253 rfl flX12_47 rfl rfl ?_
  refine ny_bipush (pc' := 258) dX12_init_256 rfl kbipush_8 ?_
  refine ny_ldc2 (pc' := 261) dX12_init_258 rfl cL1398 ?_
  refine ny_last (i := 6) (ws' := [(h0, .inr (12, [.int 0, .ref q1, .int 0, .int 0, .int 0, .int 0, .ref q2, .ref q3, .ref q4, .ref q5, .ref q6, .int 0, .int 0, .int 0, .int 0, .int 0, .int 0, .long 0, .int 0, .int 0, .ref q7, .ref q8, .ref q9, .ref q10, .int 0, .int 0, .int 0, .int 0, .int 0, .ref q11, .int (-1), .int 0, .int 0, .ref q12, .ref q13, .int (-1), .int 0, .ref q14, .int 0, .int 0, .int 0, .ref q15, .int 0, .ref q16, .int 0, .int 0, .int 0, .int 0, .int 0, .ref q17, .ref q18, .ref q19, .ref q20])), (q1, .inl (g.2.1 2, 940, .inl (fun _ => 0))), (q2, .inl (g.2.1 0, 397, .inl (fun _ => 0))), (q3, .inl (g.2.1 0, 89, .inl (fun _ => 0))), (q4, .inl (g.2.1 0, 160, .inl (fun _ => 0))), (q5, .inl (g.2.1 1, 28, .inr (.inl (fun _ => 0)))), (q6, .inl (g.2.1 1, 22, .inr (.inl (vp_updL (vp_updL (vp_updL (vp_updL (vp_updL (vp_updL (vp_updL (vp_updL (vp_updL (fun _ => 0) 0 109330312357234) 1 126943972648308) 2 123581014175598) 3 1852143732) 4 28832959090882419) 5 1735353715) 6 431416635507) 7 119182682645875) 8 448445703539)))), (q7, .inl (g.2.1 0, 64, .inl (fun _ => 0))), (q8, .inl (g.2.1 0, 6, .inl (fun _ => 0))), (q9, .inl (g.2.1 0, 1016, .inl (fun _ => 0))), (q10, .inl (g.2.1 0, 127, .inl (fun _ => 0))), (q11, .inl (g.2.1 0, 8, .inl (fun _ => 0))), (q12, .inl (g.2.1 0, 448, .inl (fun _ => 0))), (q13, .inl (g.2.1 0, 6, .inl (fun _ => 0))), (q14, .inl (g.2.1 2, 48, .inl (fun _ => 0))), (q15, .inl (g.2.1 0, 4, .inl (fun _ => 0))), (q16, .inl (g.2.1 0, 45, .inl (fun _ => 0))), (q17, .inl (g.2.1 3, 45, .inl (fun _ => 0))), (q18, .inl (g.2.1 0, 794, .inl (fun _ => 0))), (q19, .inl (g.2.1 1, 28, .inr (.inl (fun _ => 0)))), (q20, .inl (g.2.1 3, 2, .inl (fun _ => 0)))]) (pc' := 262) dX12_init_261 rfl rfl (zin_in (by decide)) rfl ?_
  refine ny_aload_n 0 (pc' := 263) dX12_init_262 rfl rfl rfl ?_
  refine ny_get (i := 0) (pc' := 266) dX12_init_263 rfl flX12_47 rfl rfl ?_
  refine ny_bipush (pc' := 268) dX12_init_266 rfl kbipush_9 ?_
  refine ny_ldc2 (pc' := 271) dX12_init_268 rfl cL1399 ?_
  refine ny_last (i := 6) (ws' := [(h0, .inr (12, [.int 0, .ref q1, .int 0, .int 0, .int 0, .int 0, .ref q2, .ref q3, .ref q4, .ref q5, .ref q6, .int 0, .int 0, .int 0, .int 0, .int 0, .int 0, .long 0, .int 0, .int 0, .ref q7, .ref q8, .ref q9, .ref q10, .int 0, .int 0, .int 0, .int 0, .int 0, .ref q11, .int (-1), .int 0, .int 0, .ref q12, .ref q13, .int (-1), .int 0, .ref q14, .int 0, .int 0, .int 0, .ref q15, .int 0, .ref q16, .int 0, .int 0, .int 0, .int 0, .int 0, .ref q17, .ref q18, .ref q19, .ref q20])), (q1, .inl (g.2.1 2, 940, .inl (fun _ => 0))), (q2, .inl (g.2.1 0, 397, .inl (fun _ => 0))), (q3, .inl (g.2.1 0, 89, .inl (fun _ => 0))), (q4, .inl (g.2.1 0, 160, .inl (fun _ => 0))), (q5, .inl (g.2.1 1, 28, .inr (.inl (fun _ => 0)))), (q6, .inl (g.2.1 1, 22, .inr (.inl (vp_updL (vp_updL (vp_updL (vp_updL (vp_updL (vp_updL (vp_updL (vp_updL (vp_updL (vp_updL (fun _ => 0) 0 109330312357234) 1 126943972648308) 2 123581014175598) 3 1852143732) 4 28832959090882419) 5 1735353715) 6 431416635507) 7 119182682645875) 8 448445703539) 9 120299592184933)))), (q7, .inl (g.2.1 0, 64, .inl (fun _ => 0))), (q8, .inl (g.2.1 0, 6, .inl (fun _ => 0))), (q9, .inl (g.2.1 0, 1016, .inl (fun _ => 0))), (q10, .inl (g.2.1 0, 127, .inl (fun _ => 0))), (q11, .inl (g.2.1 0, 8, .inl (fun _ => 0))), (q12, .inl (g.2.1 0, 448, .inl (fun _ => 0))), (q13, .inl (g.2.1 0, 6, .inl (fun _ => 0))), (q14, .inl (g.2.1 2, 48, .inl (fun _ => 0))), (q15, .inl (g.2.1 0, 4, .inl (fun _ => 0))), (q16, .inl (g.2.1 0, 45, .inl (fun _ => 0))), (q17, .inl (g.2.1 3, 45, .inl (fun _ => 0))), (q18, .inl (g.2.1 0, 794, .inl (fun _ => 0))), (q19, .inl (g.2.1 1, 28, .inr (.inl (fun _ => 0)))), (q20, .inl (g.2.1 3, 2, .inl (fun _ => 0)))]) (pc' := 272) dX12_init_271 rfl rfl (zin_in (by decide)) rfl ?_
  refine ny_aload_n 0 (pc' := 273) dX12_init_272 rfl rfl rfl ?_
  refine ny_get (i := 0) (pc' := 276) dX12_init_273 rfl flX12_47 rfl rfl ?_
  refine ny_bipush (pc' := 278) dX12_init_276 rfl kbipush_10 ?_
  refine ny_ldc2 (pc' := 281) dX12_init_278 rfl cL1400 ?_
  refine ny_last (i := 6) (ws' := [(h0, .inr (12, [.int 0, .ref q1, .int 0, .int 0, .int 0, .int 0, .ref q2, .ref q3, .ref q4, .ref q5, .ref q6, .int 0, .int 0, .int 0, .int 0, .int 0, .int 0, .long 0, .int 0, .int 0, .ref q7, .ref q8, .ref q9, .ref q10, .int 0, .int 0, .int 0, .int 0, .int 0, .ref q11, .int (-1), .int 0, .int 0, .ref q12, .ref q13, .int (-1), .int 0, .ref q14, .int 0, .int 0, .int 0, .ref q15, .int 0, .ref q16, .int 0, .int 0, .int 0, .int 0, .int 0, .ref q17, .ref q18, .ref q19, .ref q20])), (q1, .inl (g.2.1 2, 940, .inl (fun _ => 0))), (q2, .inl (g.2.1 0, 397, .inl (fun _ => 0))), (q3, .inl (g.2.1 0, 89, .inl (fun _ => 0))), (q4, .inl (g.2.1 0, 160, .inl (fun _ => 0))), (q5, .inl (g.2.1 1, 28, .inr (.inl (fun _ => 0)))), (q6, .inl (g.2.1 1, 22, .inr (.inl (vp_updL (vp_updL (vp_updL (vp_updL (vp_updL (vp_updL (vp_updL (vp_updL (vp_updL (vp_updL (vp_updL (fun _ => 0) 0 109330312357234) 1 126943972648308) 2 123581014175598) 3 1852143732) 4 28832959090882419) 5 1735353715) 6 431416635507) 7 119182682645875) 8 448445703539) 9 120299592184933) 10 28530)))), (q7, .inl (g.2.1 0, 64, .inl (fun _ => 0))), (q8, .inl (g.2.1 0, 6, .inl (fun _ => 0))), (q9, .inl (g.2.1 0, 1016, .inl (fun _ => 0))), (q10, .inl (g.2.1 0, 127, .inl (fun _ => 0))), (q11, .inl (g.2.1 0, 8, .inl (fun _ => 0))), (q12, .inl (g.2.1 0, 448, .inl (fun _ => 0))), (q13, .inl (g.2.1 0, 6, .inl (fun _ => 0))), (q14, .inl (g.2.1 2, 48, .inl (fun _ => 0))), (q15, .inl (g.2.1 0, 4, .inl (fun _ => 0))), (q16, .inl (g.2.1 0, 45, .inl (fun _ => 0))), (q17, .inl (g.2.1 3, 45, .inl (fun _ => 0))), (q18, .inl (g.2.1 0, 794, .inl (fun _ => 0))), (q19, .inl (g.2.1 1, 28, .inr (.inl (fun _ => 0)))), (q20, .inl (g.2.1 3, 2, .inl (fun _ => 0)))]) (pc' := 282) dX12_init_281 rfl rfl (zin_in (by decide)) rfl ?_
  refine ny_aload_n 0 (pc' := 283) dX12_init_282 rfl rfl rfl ?_
  refine ny_get (i := 0) (pc' := 286) dX12_init_283 rfl flX12_47 rfl rfl ?_
  refine ny_bipush (pc' := 288) dX12_init_286 rfl kbipush_11 ?_
  refine ny_ldc2 (pc' := 291) dX12_init_288 rfl cL1401 ?_
  refine ny_last (i := 6) (ws' := [(h0, .inr (12, [.int 0, .ref q1, .int 0, .int 0, .int 0, .int 0, .ref q2, .ref q3, .ref q4, .ref q5, .ref q6, .int 0, .int 0, .int 0, .int 0, .int 0, .int 0, .long 0, .int 0, .int 0, .ref q7, .ref q8, .ref q9, .ref q10, .int 0, .int 0, .int 0, .int 0, .int 0, .ref q11, .int (-1), .int 0, .int 0, .ref q12, .ref q13, .int (-1), .int 0, .ref q14, .int 0, .int 0, .int 0, .ref q15, .int 0, .ref q16, .int 0, .int 0, .int 0, .int 0, .int 0, .ref q17, .ref q18, .ref q19, .ref q20])), (q1, .inl (g.2.1 2, 940, .inl (fun _ => 0))), (q2, .inl (g.2.1 0, 397, .inl (fun _ => 0))), (q3, .inl (g.2.1 0, 89, .inl (fun _ => 0))), (q4, .inl (g.2.1 0, 160, .inl (fun _ => 0))), (q5, .inl (g.2.1 1, 28, .inr (.inl (fun _ => 0)))), (q6, .inl (g.2.1 1, 22, .inr (.inl (vp_updL (vp_updL (vp_updL (vp_updL (vp_updL (vp_updL (vp_updL (vp_updL (vp_updL (vp_updL (vp_updL (vp_updL (fun _ => 0) 0 109330312357234) 1 126943972648308) 2 123581014175598) 3 1852143732) 4 28832959090882419) 5 1735353715) 6 431416635507) 7 119182682645875) 8 448445703539) 9 120299592184933) 10 28530) 11 6385252)))), (q7, .inl (g.2.1 0, 64, .inl (fun _ => 0))), (q8, .inl (g.2.1 0, 6, .inl (fun _ => 0))), (q9, .inl (g.2.1 0, 1016, .inl (fun _ => 0))), (q10, .inl (g.2.1 0, 127, .inl (fun _ => 0))), (q11, .inl (g.2.1 0, 8, .inl (fun _ => 0))), (q12, .inl (g.2.1 0, 448, .inl (fun _ => 0))), (q13, .inl (g.2.1 0, 6, .inl (fun _ => 0))), (q14, .inl (g.2.1 2, 48, .inl (fun _ => 0))), (q15, .inl (g.2.1 0, 4, .inl (fun _ => 0))), (q16, .inl (g.2.1 0, 45, .inl (fun _ => 0))), (q17, .inl (g.2.1 3, 45, .inl (fun _ => 0))), (q18, .inl (g.2.1 0, 794, .inl (fun _ => 0))), (q19, .inl (g.2.1 1, 28, .inr (.inl (fun _ => 0)))), (q20, .inl (g.2.1 3, 2, .inl (fun _ => 0)))]) (pc' := 292) dX12_init_291 rfl rfl (zin_in (by decide)) rfl ?_
  refine ny_aload_n 0 (pc' := 293) dX12_init_292 rfl rfl rfl ?_
  refine ny_get (i := 0) (pc' := 296) dX12_init_293 rfl flX12_47 rfl rfl ?_
  refine ny_bipush (pc' := 298) dX12_init_296 rfl kbipush_12 ?_
  refine ny_ldc2 (pc' := 301) dX12_init_298 rfl cL1402 ?_
  refine ny_last (i := 6) (ws' := [(h0, .inr (12, [.int 0, .ref q1, .int 0, .int 0, .int 0, .int 0, .ref q2, .ref q3, .ref q4, .ref q5, .ref q6, .int 0, .int 0, .int 0, .int 0, .int 0, .int 0, .long 0, .int 0, .int 0, .ref q7, .ref q8, .ref q9, .ref q10, .int 0, .int 0, .int 0, .int 0, .int 0, .ref q11, .int (-1), .int 0, .int 0, .ref q12, .ref q13, .int (-1), .int 0, .ref q14, .int 0, .int 0, .int 0, .ref q15, .int 0, .ref q16, .int 0, .int 0, .int 0, .int 0, .int 0, .ref q17, .ref q18, .ref q19, .ref q20])), (q1, .inl (g.2.1 2, 940, .inl (fun _ => 0))), (q2, .inl (g.2.1 0, 397, .inl (fun _ => 0))), (q3, .inl (g.2.1 0, 89, .inl (fun _ => 0))), (q4, .inl (g.2.1 0, 160, .inl (fun _ => 0))), (q5, .inl (g.2.1 1, 28, .inr (.inl (fun _ => 0)))), (q6, .inl (g.2.1 1, 22, .inr (.inl (vp_updL (vp_updL (vp_updL (vp_updL (vp_updL (vp_updL (vp_updL (vp_updL (vp_updL (vp_updL (vp_updL (vp_updL (vp_updL (fun _ => 0) 0 109330312357234) 1 126943972648308) 2 123581014175598) 3 1852143732) 4 28832959090882419) 5 1735353715) 6 431416635507) 7 119182682645875) 8 448445703539) 9 120299592184933) 10 28530) 11 6385252) 12 7237492)))), (q7, .inl (g.2.1 0, 64, .inl (fun _ => 0))), (q8, .inl (g.2.1 0, 6, .inl (fun _ => 0))), (q9, .inl (g.2.1 0, 1016, .inl (fun _ => 0))), (q10, .inl (g.2.1 0, 127, .inl (fun _ => 0))), (q11, .inl (g.2.1 0, 8, .inl (fun _ => 0))), (q12, .inl (g.2.1 0, 448, .inl (fun _ => 0))), (q13, .inl (g.2.1 0, 6, .inl (fun _ => 0))), (q14, .inl (g.2.1 2, 48, .inl (fun _ => 0))), (q15, .inl (g.2.1 0, 4, .inl (fun _ => 0))), (q16, .inl (g.2.1 0, 45, .inl (fun _ => 0))), (q17, .inl (g.2.1 3, 45, .inl (fun _ => 0))), (q18, .inl (g.2.1 0, 794, .inl (fun _ => 0))), (q19, .inl (g.2.1 1, 28, .inr (.inl (fun _ => 0)))), (q20, .inl (g.2.1 3, 2, .inl (fun _ => 0)))]) (pc' := 302) dX12_init_301 rfl rfl (zin_in (by decide)) rfl ?_
  refine ny_aload_n 0 (pc' := 303) dX12_init_302 rfl rfl rfl ?_
  refine ny_get (i := 0) (pc' := 306) dX12_init_303 rfl flX12_47 rfl rfl ?_
  refine ny_bipush (pc' := 308) dX12_init_306 rfl kbipush_13 ?_
  refine ny_ldc2 (pc' := 311) dX12_init_308 rfl cL1403 ?_
  refine ny_last (i := 6) (ws' := [(h0, .inr (12, [.int 0, .ref q1, .int 0, .int 0, .int 0, .int 0, .ref q2, .ref q3, .ref q4, .ref q5, .ref q6, .int 0, .int 0, .int 0, .int 0, .int 0, .int 0, .long 0, .int 0, .int 0, .ref q7, .ref q8, .ref q9, .ref q10, .int 0, .int 0, .int 0, .int 0, .int 0, .ref q11, .int (-1), .int 0, .int 0, .ref q12, .ref q13, .int (-1), .int 0, .ref q14, .int 0, .int 0, .int 0, .ref q15, .int 0, .ref q16, .int 0, .int 0, .int 0, .int 0, .int 0, .ref q17, .ref q18, .ref q19, .ref q20])), (q1, .inl (g.2.1 2, 940, .inl (fun _ => 0))), (q2, .inl (g.2.1 0, 397, .inl (fun _ => 0))), (q3, .inl (g.2.1 0, 89, .inl (fun _ => 0))), (q4, .inl (g.2.1 0, 160, .inl (fun _ => 0))), (q5, .inl (g.2.1 1, 28, .inr (.inl (fun _ => 0)))), (q6, .inl (g.2.1 1, 22, .inr (.inl (vp_updL (vp_updL (vp_updL (vp_updL (vp_updL (vp_updL (vp_updL (vp_updL (vp_updL (vp_updL (vp_updL (vp_updL (vp_updL (vp_updL (fun _ => 0) 0 109330312357234) 1 126943972648308) 2 123581014175598) 3 1852143732) 4 28832959090882419) 5 1735353715) 6 431416635507) 7 119182682645875) 8 448445703539) 9 120299592184933) 10 28530) 11 6385252) 12 7237492) 13 418431069797)))), (q7, .inl (g.2.1 0, 64, .inl (fun _ => 0))), (q8, .inl (g.2.1 0, 6, .inl (fun _ => 0))), (q9, .inl (g.2.1 0, 1016, .inl (fun _ => 0))), (q10, .inl (g.2.1 0, 127, .inl (fun _ => 0))), (q11, .inl (g.2.1 0, 8, .inl (fun _ => 0))), (q12, .inl (g.2.1 0, 448, .inl (fun _ => 0))), (q13, .inl (g.2.1 0, 6, .inl (fun _ => 0))), (q14, .inl (g.2.1 2, 48, .inl (fun _ => 0))), (q15, .inl (g.2.1 0, 4, .inl (fun _ => 0))), (q16, .inl (g.2.1 0, 45, .inl (fun _ => 0))), (q17, .inl (g.2.1 3, 45, .inl (fun _ => 0))), (q18, .inl (g.2.1 0, 794, .inl (fun _ => 0))), (q19, .inl (g.2.1 1, 28, .inr (.inl (fun _ => 0)))), (q20, .inl (g.2.1 3, 2, .inl (fun _ => 0)))]) (pc' := 312) dX12_init_311 rfl rfl (zin_in (by decide)) rfl ?_
  refine ny_aload_n 0 (pc' := 313) dX12_init_312 rfl rfl rfl ?_
  refine ny_get (i := 0) (pc' := 316) dX12_init_313 rfl flX12_47 rfl rfl ?_
  refine ny_bipush (pc' := 318) dX12_init_316 rfl kbipush_14 ?_
  refine ny_ldc2 (pc' := 321) dX12_init_318 rfl cL1404 ?_
  refine ny_last (i := 6) (ws' := [(h0, .inr (12, [.int 0, .ref q1, .int 0, .int 0, .int 0, .int 0, .ref q2, .ref q3, .ref q4, .ref q5, .ref q6, .int 0, .int 0, .int 0, .int 0, .int 0, .int 0, .long 0, .int 0, .int 0, .ref q7, .ref q8, .ref q9, .ref q10, .int 0, .int 0, .int 0, .int 0, .int 0, .ref q11, .int (-1), .int 0, .int 0, .ref q12, .ref q13, .int (-1), .int 0, .ref q14, .int 0, .int 0, .int 0, .ref q15, .int 0, .ref q16, .int 0, .int 0, .int 0, .int 0, .int 0, .ref q17, .ref q18, .ref q19, .ref q20])), (q1, .inl (g.2.1 2, 940, .inl (fun _ => 0))), (q2, .inl (g.2.1 0, 397, .inl (fun _ => 0))), (q3, .inl (g.2.1 0, 89, .inl (fun _ => 0))), (q4, .inl (g.2.1 0, 160, .inl (fun _ => 0))), (q5, .inl (g.2.1 1, 28, .inr (.inl (fun _ => 0)))), (q6, .inl (g.2.1 1, 22, .inr (.inl (vp_updL (vp_updL (vp_updL (vp_updL (vp_updL (vp_updL (vp_updL (vp_updL (vp_updL (vp_updL (vp_updL (vp_updL (vp_updL (vp_updL (vp_updL (fun _ => 0) 0 109330312357234) 1 126943972648308) 2 123581014175598) 3 1852143732) 4 28832959090882419) 5 1735353715) 6 431416635507) 7 119182682645875) 8 448445703539) 9 120299592184933) 10 28530) 11 6385252) 12 7237492) 13 418431069797) 14 125797149402468)))), (q7, .inl (g.2.1 0, 64, .inl (fun _ => 0))), (q8, .inl (g.2.1 0, 6, .inl (fun _ => 0))), (q9, .inl (g.2.1 0, 1016, .inl (fun _ => 0))), (q10, .inl (g.2.1 0, 127, .inl (fun _ => 0))), (q11, .inl (g.2.1 0, 8, .inl (fun _ => 0))), (q12, .inl (g.2.1 0, 448, .inl (fun _ => 0))), (q13, .inl (g.2.1 0, 6, .inl (fun _ => 0))), (q14, .inl (g.2.1 2, 48, .inl (fun _ => 0))), (q15, .inl (g.2.1 0, 4, .inl (fun _ => 0))), (q16, .inl (g.2.1 0, 45, .inl (fun _ => 0))), (q17, .inl (g.2.1 3, 45, .inl (fun _ => 0))), (q18, .inl (g.2.1 0, 794, .inl (fun _ => 0))), (q19, .inl (g.2.1 1, 28, .inr (.inl (fun _ => 0)))), (q20, .inl (g.2.1 3, 2, .inl (fun _ => 0)))]) (pc' := 322) dX12_init_321 rfl rfl (zin_in (by decide)) rfl ?_
  refine ny_aload_n 0 (pc' := 323) dX12_init_322 rfl rfl rfl ?_
  refine ny_get (i := 0) (pc' := 326) dX12_init_323 rfl flX12_47 rfl rfl ?_
  refine ny_bipush (pc' := 328) dX12_init_326 rfl kbipush_15 ?_
  refine ny_ldc2 (pc' := 331) dX12_init_328 rfl cL1405 ?_
  refine ny_last (i := 6) (ws' := [(h0, .inr (12, [.int 0, .ref q1, .int 0, .int 0, .int 0, .int 0, .ref q2, .ref q3, .ref q4, .ref q5, .ref q6, .int 0, .int 0, .int 0, .int 0, .int 0, .int 0, .long 0, .int 0, .int 0, .ref q7, .ref q8, .ref q9, .ref q10, .int 0, .int 0, .int 0, .int 0, .int 0, .ref q11, .int (-1), .int 0, .int 0, .ref q12, .ref q13, .int (-1), .int 0, .ref q14, .int 0, .int 0, .int 0, .ref q15, .int 0, .ref q16, .int 0, .int 0, .int 0, .int 0, .int 0, .ref q17, .ref q18, .ref q19, .ref q20])), (q1, .inl (g.2.1 2, 940, .inl (fun _ => 0))), (q2, .inl (g.2.1 0, 397, .inl (fun _ => 0))), (q3, .inl (g.2.1 0, 89, .inl (fun _ => 0))), (q4, .inl (g.2.1 0, 160, .inl (fun _ => 0))), (q5, .inl (g.2.1 1, 28, .inr (.inl (fun _ => 0)))), (q6, .inl (g.2.1 1, 22, .inr (.inl (vp_updL (vp_updL (vp_updL (vp_updL (vp_updL (vp_updL (vp_updL (vp_updL (vp_updL (vp_updL (vp_updL (vp_updL (vp_updL (vp_updL (vp_updL (vp_updL (fun _ => 0) 0 109330312357234) 1 126943972648308) 2 123581014175598) 3 1852143732) 4 28832959090882419) 5 1735353715) 6 431416635507) 7 119182682645875) 8 448445703539) 9 120299592184933) 10 28530) 11 6385252) 12 7237492) 13 418431069797) 14 125797149402468) 15 1768189029)))), (q7, .inl (g.2.1 0, 64, .inl (fun _ => 0))), (q8, .inl (g.2.1 0, 6, .inl (fun _ => 0))), (q9, .inl (g.2.1 0, 1016, .inl (fun _ => 0))), (q10, .inl (g.2.1 0, 127, .inl (fun _ => 0))), (q11, .inl (g.2.1 0, 8, .inl (fun _ => 0))), (q12, .inl (g.2.1 0, 448, .inl (fun _ => 0))), (q13, .inl (g.2.1 0, 6, .inl (fun _ => 0))), (q14, .inl (g.2.1 2, 48, .inl (fun _ => 0))), (q15, .inl (g.2.1 0, 4, .inl (fun _ => 0))), (q16, .inl (g.2.1 0, 45, .inl (fun _ => 0))), (q17, .inl (g.2.1 3, 45, .inl (fun _ => 0))), (q18, .inl (g.2.1 0, 794, .inl (fun _ => 0))), (q19, .inl (g.2.1 1, 28, .inr (.inl (fun _ => 0)))), (q20, .inl (g.2.1 3, 2, .inl (fun _ => 0)))]) (pc' := 332) dX12_init_331 rfl rfl (zin_in (by decide)) rfl ?_
  refine ny_aload_n 0 (pc' := 333) dX12_init_332 rfl rfl rfl ?_
  refine ny_get (i := 0) (pc' := 336) dX12_init_333 rfl flX12_47 rfl rfl ?_
  refine ny_bipush (pc' := 338) dX12_init_336 rfl kbipush_16 ?_
  refine ny_ldc2 (pc' := 341) dX12_init_338 rfl cL1406 ?_
  refine ny_last (i := 6) (ws' := [(h0, .inr (12, [.int 0, .ref q1, .int 0, .int 0, .int 0, .int 0, .ref q2, .ref q3, .ref q4, .ref q5, .ref q6, .int 0, .int 0, .int 0, .int 0, .int 0, .int 0, .long 0, .int 0, .int 0, .ref q7, .ref q8, .ref q9, .ref q10, .int 0, .int 0, .int 0, .int 0, .int 0, .ref q11, .int (-1), .int 0, .int 0, .ref q12, .ref q13, .int (-1), .int 0, .ref q14, .int 0, .int 0, .int 0, .ref q15, .int 0, .ref q16, .int 0, .int 0, .int 0, .int 0, .int 0, .ref q17, .ref q18, .ref q19, .ref q20])), (q1, .inl (g.2.1 2, 940, .inl (fun _ => 0))), (q2, .inl (g.2.1 0, 397, .inl (fun _ => 0))), (q3, .inl (g.2.1 0, 89, .inl (fun _ => 0))), (q4, .inl (g.2.1 0, 160, .inl (fun _ => 0))), (q5, .inl (g.2.1 1, 28, .inr (.inl (fun _ => 0)))), (q6, .inl (g.2.1 1, 22, .inr (.inl (vp_updL (vp_updL (vp_updL (vp_updL (vp_updL (vp_updL (vp_updL (vp_updL (vp_updL (vp_updL (vp_updL (vp_updL (vp_updL (vp_updL (vp_updL (vp_updL (vp_updL (fun _ => 0) 0 109330312357234) 1 126943972648308) 2 123581014175598) 3 1852143732) 4 28832959090882419) 5 1735353715) 6 431416635507) 7 119182682645875) 8 448445703539) 9 120299592184933) 10 28530) 11 6385252) 12 7237492) 13 418431069797) 14 125797149402468) 15 1768189029) 16 24948)))), (q7, .inl (g.2.1 0, 64, .inl (fun _ => 0))), (q8, .inl (g.2.1 0, 6, .inl (fun _ => 0))), (q9, .inl (g.2.1 0, 1016, .inl (fun _ => 0))), (q10, .inl (g.2.1 0, 127, .inl (fun _ => 0))), (q11, .inl (g.2.1 0, 8, .inl (fun _ => 0))), (q12, .inl (g.2.1 0, 448, .inl (fun _ => 0))), (q13, .inl (g.2.1 0, 6, .inl (fun _ => 0))), (q14, .inl (g.2.1 2, 48, .inl (fun _ => 0))), (q15, .inl (g.2.1 0, 4, .inl (fun _ => 0))), (q16, .inl (g.2.1 0, 45, .inl (fun _ => 0))), (q17, .inl (g.2.1 3, 45, .inl (fun _ => 0))), (q18, .inl (g.2.1 0, 794, .inl (fun _ => 0))), (q19, .inl (g.2.1 1, 28, .inr (.inl (fun _ => 0)))), (q20, .inl (g.2.1 3, 2, .inl (fun _ => 0)))]) (pc' := 342) dX12_init_341 rfl rfl (zin_in (by decide)) rfl ?_
  refine ny_aload_n 0 (pc' := 343) dX12_init_342 rfl rfl rfl ?_
  refine ny_get (i := 0) (pc' := 346) dX12_init_343 rfl flX12_47 rfl rfl ?_
  refine ny_bipush (pc' := 348) dX12_init_346 rfl kbipush_17 ?_
  refine ny_ldc2 (pc' := 351) dX12_init_348 rfl cL1407 ?_
  refine ny_last (i := 6) (ws' := [(h0, .inr (12, [.int 0, .ref q1, .int 0, .int 0, .int 0, .int 0, .ref q2, .ref q3, .ref q4, .ref q5, .ref q6, .int 0, .int 0, .int 0, .int 0, .int 0, .int 0, .long 0, .int 0, .int 0, .ref q7, .ref q8, .ref q9, .ref q10, .int 0, .int 0, .int 0, .int 0, .int 0, .ref q11, .int (-1), .int 0, .int 0, .ref q12, .ref q13, .int (-1), .int 0, .ref q14, .int 0, .int 0, .int 0, .ref q15, .int 0, .ref q16, .int 0, .int 0, .int 0, .int 0, .int 0, .ref q17, .ref q18, .ref q19, .ref q20])), (q1, .inl (g.2.1 2, 940, .inl (fun _ => 0))), (q2, .inl (g.2.1 0, 397, .inl (fun _ => 0))), (q3, .inl (g.2.1 0, 89, .inl (fun _ => 0))), (q4, .inl (g.2.1 0, 160, .inl (fun _ => 0))), (q5, .inl (g.2.1 1, 28, .inr (.inl (fun _ => 0)))), (q6, .inl (g.2.1 1, 22, .inr (.inl (vp_updL (vp_updL (vp_updL (vp_updL (vp_updL (vp_updL (vp_updL (vp_updL (vp_updL (vp_updL (vp_updL (vp_updL (vp_updL (vp_updL (vp_updL (vp_updL (vp_updL (vp_updL (fun _ => 0) 0 109330312357234) 1 126943972648308) 2 123581014175598) 3 1852143732) 4 28832959090882419) 5 1735353715) 6 431416635507) 7 119182682645875) 8 448445703539) 9 120299592184933) 10 28530) 11 6385252) 12 7237492) 13 418431069797) 14 125797149402468) 15 1768189029) 16 24948) 17 418330731890)))), (q7, .inl (g.2.1 0, 64, .inl (fun _ => 0))), (q8, .inl (g.2.1 0, 6, .inl (fun _ => 0))), (q9, .inl (g.2.1 0, 1016, .inl (fun _ => 0))), (q10, .inl (g.2.1 0, 127, .inl (fun _ => 0))), (q11, .inl (g.2.1 0, 8, .inl (fun _ => 0))), (q12, .inl (g.2.1 0, 448, .inl (fun _ => 0))), (q13, .inl (g.2.1 0, 6, .inl (fun _ => 0))), (q14, .inl (g.2.1 2, 48, .inl (fun _ => 0))), (q15, .inl (g.2.1 0, 4, .inl (fun _ => 0))), (q16, .inl (g.2.1 0, 45, .inl (fun _ => 0))), (q17, .inl (g.2.1 3, 45, .inl (fun _ => 0))), (q18, .inl (g.2.1 0, 794, .inl (fun _ => 0))), (q19, .inl (g.2.1 1, 28, .inr (.inl (fun _ => 0)))), (q20, .inl (g.2.1 3, 2, .inl (fun _ => 0)))]) (pc' := 352) dX12_init_351 rfl rfl (zin_in (by decide)) rfl ?_
  refine ny_aload_n 0 (pc' := 353) dX12_init_352 rfl rfl rfl ?_
  refine ny_get (i := 0) (pc' := 356) dX12_init_353 rfl flX12_47 rfl rfl ?_
  refine ny_bipush (pc' := 358) dX12_init_356 rfl kbipush_18 ?_
  refine ny_ldc2 (pc' := 361) dX12_init_358 rfl cL1408 ?_
  refine ny_last (i := 6) (ws' := [(h0, .inr (12, [.int 0, .ref q1, .int 0, .int 0, .int 0, .int 0, .ref q2, .ref q3, .ref q4, .ref q5, .ref q6, .int 0, .int 0, .int 0, .int 0, .int 0, .int 0, .long 0, .int 0, .int 0, .ref q7, .ref q8, .ref q9, .ref q10, .int 0, .int 0, .int 0, .int 0, .int 0, .ref q11, .int (-1), .int 0, .int 0, .ref q12, .ref q13, .int (-1), .int 0, .ref q14, .int 0, .int 0, .int 0, .ref q15, .int 0, .ref q16, .int 0, .int 0, .int 0, .int 0, .int 0, .ref q17, .ref q18, .ref q19, .ref q20])), (q1, .inl (g.2.1 2, 940, .inl (fun _ => 0))), (q2, .inl (g.2.1 0, 397, .inl (fun _ => 0))), (q3, .inl (g.2.1 0, 89, .inl (fun _ => 0))), (q4, .inl (g.2.1 0, 160, .inl (fun _ => 0))), (q5, .inl (g.2.1 1, 28, .inr (.inl (fun _ => 0)))), (q6, .inl (g.2.1 1, 22, .inr (.inl (vp_updL (vp_updL (vp_updL (vp_updL (vp_updL (vp_updL (vp_updL (vp_updL (vp_updL (vp_updL (vp_updL (vp_updL (vp_updL (vp_updL (vp_updL (vp_updL (vp_updL (vp_updL (vp_updL (fun _ => 0) 0 109330312357234) 1 126943972648308) 2 123581014175598) 3 1852143732) 4 28832959090882419) 5 1735353715) 6 431416635507) 7 119182682645875) 8 448445703539) 9 120299592184933) 10 28530) 11 6385252) 12 7237492) 13 418431069797) 14 125797149402468) 15 1768189029) 16 24948) 17 418330731890) 18 1651863155)))), (q7, .inl (g.2.1 0, 64, .inl (fun _ => 0))), (q8, .inl (g.2.1 0, 6, .inl (fun _ => 0))), (q9, .inl (g.2.1 0, 1016, .inl (fun _ => 0))), (q10, .inl (g.2.1 0, 127, .inl (fun _ => 0))), (q11, .inl (g.2.1 0, 8, .inl (fun _ => 0))), (q12, .inl (g.2.1 0, 448, .inl (fun _ => 0))), (q13, .inl (g.2.1 0, 6, .inl (fun _ => 0))), (q14, .inl (g.2.1 2, 48, .inl (fun _ => 0))), (q15, .inl (g.2.1 0, 4, .inl (fun _ => 0))), (q16, .inl (g.2.1 0, 45, .inl (fun _ => 0))), (q17, .inl (g.2.1 3, 45, .inl (fun _ => 0))), (q18, .inl (g.2.1 0, 794, .inl (fun _ => 0))), (q19, .inl (g.2.1 1, 28, .inr (.inl (fun _ => 0)))), (q20, .inl (g.2.1 3, 2, .inl (fun _ => 0)))]) (pc' := 362) dX12_init_361 rfl rfl (zin_in (by decide)) rfl ?_
  refine ny_aload_n 0 (pc' := 363) dX12_init_362 rfl rfl rfl ?_
  refine ny_get (i := 0) (pc' := 366) dX12_init_363 rfl flX12_47 rfl rfl ?_
  refine ny_bipush (pc' := 368) dX12_init_366 rfl kbipush_19 ?_
  refine ny_ldc2 (pc' := 371) dX12_init_368 rfl cL1409 ?_
  refine ny_last (i := 6) (ws' := [(h0, .inr (12, [.int 0, .ref q1, .int 0, .int 0, .int 0, .int 0, .ref q2, .ref q3, .ref q4, .ref q5, .ref q6, .int 0, .int 0, .int 0, .int 0, .int 0, .int 0, .long 0, .int 0, .int 0, .ref q7, .ref q8, .ref q9, .ref q10, .int 0, .int 0, .int 0, .int 0, .int 0, .ref q11, .int (-1), .int 0, .int 0, .ref q12, .ref q13, .int (-1), .int 0, .ref q14, .int 0, .int 0, .int 0, .ref q15, .int 0, .ref q16, .int 0, .int 0, .int 0, .int 0, .int 0, .ref q17, .ref q18, .ref q19, .ref q20])), (q1, .inl (g.2.1 2, 940, .inl (fun _ => 0))), (q2, .inl (g.2.1 0, 397, .inl (fun _ => 0))), (q3, .inl (g.2.1 0, 89, .inl (fun _ => 0))), (q4, .inl (g.2.1 0, 160, .inl (fun _ => 0))), (q5, .inl (g.2.1 1, 28, .inr (.inl (fun _ => 0)))), (q6, .inl (g.2.1 1, 22, .inr (.inl (vp_updL (vp_updL (vp_updL (vp_updL (vp_updL (vp_updL (vp_updL (vp_updL (vp_updL (vp_updL (vp_updL (vp_updL (vp_updL (vp_updL (vp_updL (vp_updL (vp_updL (vp_updL (vp_updL (vp_updL (fun _ => 0) 0 109330312357234) 1 126943972648308) 2 123581014175598) 3 1852143732) 4 28832959090882419) 5 1735353715) 6 431416635507) 7 119182682645875) 8 448445703539) 9 120299592184933) 10 28530) 11 6385252) 12 7237492) 13 418431069797) 14 125797149402468) 15 1768189029) 16 24948) 17 418330731890) 18 1651863155) 19 1818584692)))), (q7, .inl (g.2.1 0, 64, .inl (fun _ => 0))), (q8, .inl (g.2.1 0, 6, .inl (fun _ => 0))), (q9, .inl (g.2.1 0, 1016, .inl (fun _ => 0))), (q10, .inl (g.2.1 0, 127, .inl (fun _ => 0))), (q11, .inl (g.2.1 0, 8, .inl (fun _ => 0))), (q12, .inl (g.2.1 0, 448, .inl (fun _ => 0))), (q13, .inl (g.2.1 0, 6, .inl (fun _ => 0))), (q14, .inl (g.2.1 2, 48, .inl (fun _ => 0))), (q15, .inl (g.2.1 0, 4, .inl (fun _ => 0))), (q16, .inl (g.2.1 0, 45, .inl (fun _ => 0))), (q17, .inl (g.2.1 3, 45, .inl (fun _ => 0))), (q18, .inl (g.2.1 0, 794, .inl (fun _ => 0))), (q19, .inl (g.2.1 1, 28, .inr (.inl (fun _ => 0)))), (q20, .inl (g.2.1 3, 2, .inl (fun _ => 0)))]) (pc' := 372) dX12_init_371 rfl rfl (zin_in (by decide)) rfl ?_
  refine ny_aload_n 0 (pc' := 373) dX12_init_372 rfl rfl rfl ?_
  refine ny_get (i := 0) (pc' := 376) dX12_init_373 rfl flX12_47 rfl rfl ?_
  refine ny_bipush (pc' := 378) dX12_init_376 rfl kbipush_20 ?_
  refine ny_ldc2 (pc' := 381) dX12_init_378 rfl cL1410 ?_
  refine ny_last (i := 6) (ws' := [(h0, .inr (12, [.int 0, .ref q1, .int 0, .int 0, .int 0, .int 0, .ref q2, .ref q3, .ref q4, .ref q5, .ref q6, .int 0, .int 0, .int 0, .int 0, .int 0, .int 0, .long 0, .int 0, .int 0, .ref q7, .ref q8, .ref q9, .ref q10, .int 0, .int 0, .int 0, .int 0, .int 0, .ref q11, .int (-1), .int 0, .int 0, .ref q12, .ref q13, .int (-1), .int 0, .ref q14, .int 0, .int 0, .int 0, .ref q15, .int 0, .ref q16, .int 0, .int 0, .int 0, .int 0, .int 0, .ref q17, .ref q18, .ref q19, .ref q20])), (q1, .inl (g.2.1 2, 940, .inl (fun _ => 0))), (q2, .inl (g.2.1 0, 397, .inl (fun _ => 0))), (q3, .inl (g.2.1 0, 89, .inl (fun _ => 0))), (q4, .inl (g.2.1 0, 160, .inl (fun _ => 0))), (q5, .inl (g.2.1 1, 28, .inr (.inl (fun _ => 0)))), (q6, .inl (g.2.1 1, 22, .inr (.inl (vp_updL (vp_updL (vp_updL (vp_updL (vp_updL (vp_updL (vp_updL (vp_updL (vp_updL (vp_updL (vp_updL (vp_updL (vp_updL (vp_updL (vp_updL (vp_updL (vp_updL (vp_updL (vp_updL (vp_updL (vp_updL (fun _ => 0) 0 109330312357234) 1 126943972648308) 2 123581014175598) 3 1852143732) 4 28832959090882419) 5 1735353715) 6 431416635507) 7 119182682645875) 8 448445703539) 9 120299592184933) 10 28530) 11 6385252) 12 7237492) 13 418431069797) 14 125797149402468) 15 1768189029) 16 24948) 17 418330731890) 18 1651863155) 19 1818584692) 20 108187682958948)))), (q7, .inl (g.2.1 0, 64, .inl (fun _ => 0))), (q8, .inl (g.2.1 0, 6, .inl (fun _ => 0))), (q9, .inl (g.2.1 0, 1016, .inl (fun _ => 0))), (q10, .inl (g.2.1 0, 127, .inl (fun _ => 0))), (q11, .inl (g.2.1 0, 8, .inl (fun _ => 0))), (q12, .inl (g.2.1 0, 448, .inl (fun _ => 0))), (q13, .inl (g.2.1 0, 6, .inl (fun _ => 0))), (q14, .inl (g.2.1 2, 48, .inl (fun _ => 0))), (q15, .inl (g.2.1 0, 4, .inl (fun _ => 0))), (q16, .inl (g.2.1 0, 45, .inl (fun _ => 0))), (q17, .inl (g.2.1 3, 45, .inl (fun _ => 0))), (q18, .inl (g.2.1 0, 794, .inl (fun _ => 0))), (q19, .inl (g.2.1 1, 28, .inr (.inl (fun _ => 0)))), (q20, .inl (g.2.1 3, 2, .inl (fun _ => 0)))]) (pc' := 382) dX12_init_381 rfl rfl (zin_in (by decide)) rfl ?_
  refine ny_aload_n 0 (pc' := 383) dX12_init_382 rfl rfl rfl ?_
  refine ny_get (i := 0) (pc' := 386) dX12_init_383 rfl flX12_47 rfl rfl ?_
  refine ny_bipush (pc' := 388) dX12_init_386 rfl kbipush_21 ?_
  refine ny_ldc2 (pc' := 391) dX12_init_388 rfl cL1411 ?_
  refine ny_last (i := 6) (ws' := [(h0, .inr (12, [.int 0, .ref q1, .int 0, .int 0, .int 0, .int 0, .ref q2, .ref q3, .ref q4, .ref q5, .ref q6, .int 0, .int 0, .int 0, .int 0, .int 0, .int 0, .long 0, .int 0, .int 0, .ref q7, .ref q8, .ref q9, .ref q10, .int 0, .int 0, .int 0, .int 0, .int 0, .ref q11, .int (-1), .int 0, .int 0, .ref q12, .ref q13, .int (-1), .int 0, .ref q14, .int 0, .int 0, .int 0, .ref q15, .int 0, .ref q16, .int 0, .int 0, .int 0, .int 0, .int 0, .ref q17, .ref q18, .ref q19, .ref q20])), (q1, .inl (g.2.1 2, 940, .inl (fun _ => 0))), (q2, .inl (g.2.1 0, 397, .inl (fun _ => 0))), (q3, .inl (g.2.1 0, 89, .inl (fun _ => 0))), (q4, .inl (g.2.1 0, 160, .inl (fun _ => 0))), (q5, .inl (g.2.1 1, 28, .inr (.inl (fun _ => 0)))), (q6, .inl (g.2.1 1, 22, .inr (.inl (vp_updL (vp_updL (vp_updL (vp_updL (vp_updL (vp_updL (vp_updL (vp_updL (vp_updL (vp_updL (vp_updL (vp_updL (vp_updL (vp_updL (vp_updL (vp_updL (vp_updL (vp_updL (vp_updL (vp_updL (vp_updL (vp_updL (fun _ => 0) 0 109330312357234) 1 126943972648308) 2 123581014175598) 3 1852143732) 4 28832959090882419) 5 1735353715) 6 431416635507) 7 119182682645875) 8 448445703539) 9 120299592184933) 10 28530) 11 6385252) 12 7237492) 13 418431069797) 14 125797149402468) 15 1768189029) 16 24948) 17 418330731890) 18 1651863155) 19 1818584692) 20 108187682958948) 21 121450625394034)))), (q7, .inl (g.2.1 0, 64, .inl (fun _ => 0))), (q8, .inl (g.2.1 0, 6, .inl (fun _ => 0))), (q9, .inl (g.2.1 0, 1016, .inl (fun _ => 0))), (q10, .inl (g.2.1 0, 127, .inl (fun _ => 0))), (q11, .inl (g.2.1 0, 8, .inl (fun _ => 0))), (q12, .inl (g.2.1 0, 448, .inl (fun _ => 0))), (q13, .inl (g.2.1 0, 6, .inl (fun _ => 0))), (q14, .inl (g.2.1 2, 48, .inl (fun _ => 0))), (q15, .inl (g.2.1 0, 4, .inl (fun _ => 0))), (q16, .inl (g.2.1 0, 45, .inl (fun _ => 0))), (q17, .inl (g.2.1 3, 45, .inl (fun _ => 0))), (q18, .inl (g.2.1 0, 794, .inl (fun _ => 0))), (q19, .inl (g.2.1 1, 28, .inr (.inl (fun _ => 0)))), (q20, .inl (g.2.1 3, 2, .inl (fun _ => 0)))]) (pc' := 392) dX12_init_391 rfl rfl (zin_in (by decide)) rfl ?_
  refine ny_aload_n 0 (pc' := 393) dX12_init_392 rfl rfl rfl ?_
  refine ny_V (mc' := 0) (ms' := 0) (z := YX12_clears) (As := []) (q0 := 0) (ci := 12) (fs := [.int 0, .ref q1, .int 0, .int 0, .int 0, .int 0, .ref q2, .ref q3, .ref q4, .ref q5, .ref q6, .int 0, .int 0, .int 0, .int 0, .int 0, .int 0, .long 0, .int 0, .int 0, .ref q7, .ref q8, .ref q9, .ref q10, .int 0, .int 0, .int 0, .int 0, .int 0, .ref q11, .int (-1), .int 0, .int 0, .ref q12, .ref q13, .int (-1), .int 0, .ref q14, .int 0, .int 0, .int 0, .ref q15, .int 0, .ref q16, .int 0, .int 0, .int 0, .int 0, .int 0, .ref q17, .ref q18, .ref q19, .ref q20]) (wc := [(h0, .inr (12, [.int 0, .ref q1, .int 0, .int 0, .int 0, .int 0, .ref q2, .ref q3, .ref q4, .ref q5, .ref q6, .int 0, .int 0, .int 0, .int 0, .int 0, .int 0, .long 0, .int 0, .int 0, .ref q7, .ref q8, .ref q9, .ref q10, .int 0, .int 0, .int 0, .int 0, .int 0, .ref q11, .int (-1), .int 0, .int 0, .ref q12, .ref q13, .int (-1), .int 0, .ref q14, .int 0, .int 0, .int 0, .ref q15, .int 0, .ref q16, .int 0, .int 0, .int 0, .int 0, .int 0, .ref q17, .ref q18, .ref q19, .ref q20])), (q3, .inl (g.2.1 0, 89, .inl (fun _ => 0)))]) (wr := [(q1, .inl (g.2.1 2, 940, .inl (fun _ => 0))), (q2, .inl (g.2.1 0, 397, .inl (fun _ => 0))), (q4, .inl (g.2.1 0, 160, .inl (fun _ => 0))), (q5, .inl (g.2.1 1, 28, .inr (.inl (fun _ => 0)))), (q6, .inl (g.2.1 1, 22, .inr (.inl (vp_updL (vp_updL (vp_updL (vp_updL (vp_updL (vp_updL (vp_updL (vp_updL (vp_updL (vp_updL (vp_updL (vp_updL (vp_updL (vp_updL (vp_updL (vp_updL (vp_updL (vp_updL (vp_updL (vp_updL (vp_updL (vp_updL (fun _ => 0) 0 109330312357234) 1 126943972648308) 2 123581014175598) 3 1852143732) 4 28832959090882419) 5 1735353715) 6 431416635507) 7 119182682645875) 8 448445703539) 9 120299592184933) 10 28530) 11 6385252) 12 7237492) 13 418431069797) 14 125797149402468) 15 1768189029) 16 24948) 17 418330731890) 18 1651863155) 19 1818584692) 20 108187682958948) 21 121450625394034)))), (q7, .inl (g.2.1 0, 64, .inl (fun _ => 0))), (q8, .inl (g.2.1 0, 6, .inl (fun _ => 0))), (q9, .inl (g.2.1 0, 1016, .inl (fun _ => 0))), (q10, .inl (g.2.1 0, 127, .inl (fun _ => 0))), (q11, .inl (g.2.1 0, 8, .inl (fun _ => 0))), (q12, .inl (g.2.1 0, 448, .inl (fun _ => 0))), (q13, .inl (g.2.1 0, 6, .inl (fun _ => 0))), (q14, .inl (g.2.1 2, 48, .inl (fun _ => 0))), (q15, .inl (g.2.1 0, 4, .inl (fun _ => 0))), (q16, .inl (g.2.1 0, 45, .inl (fun _ => 0))), (q17, .inl (g.2.1 3, 45, .inl (fun _ => 0))), (q18, .inl (g.2.1 0, 794, .inl (fun _ => 0))), (q19, .inl (g.2.1 1, 28, .inr (.inl (fun _ => 0)))), (q20, .inl (g.2.1 3, 2, .inl (fun _ => 0)))]) (pc' := 396) dX12_init_393 rfl mlX12_143 lkX12_clears rfl ⟨_, _, rfl⟩ rfl rfl (Nat.le_of_ble_eq_true rfl) (Nat.le_of_ble_eq_true rfl) (Nat.le_of_ble_eq_true rfl) (Nat.le_of_ble_eq_true rfl) [0, 3] [1, 2, 4, 5, 6, 7, 8, 9, 10, 11, 12, 13, 14, 15, 16, 17, 18, 19, 20] rfl rfl rfl rfl (by decide) (c_clears g _ _ _ rfl) (fun v9 w9 hw => ?_)
  obtain ⟨rfl, rfl⟩ := hw
  refine ny_sub (ws' := [(h0, .inr (12, [.int 0, .ref q1, .int 0, .int 0, .int 0, .int 0, .ref q2, .ref q3, .ref q4, .ref q5, .ref q6, .int 0, .int 0, .int 0, .int 0, .int 0, .int 0, .long 0, .int 0, .int 0, .ref q7, .ref q8, .ref q9, .ref q10, .int 0, .int 0, .int 0, .int 0, .int 0, .ref q11, .int (-1), .int 0, .int 0, .ref q12, .ref q13, .int (-1), .int 0, .ref q14, .int 0, .int 0, .int 0, .ref q15, .int 0, .ref q16, .int 0, .int 0, .int 0, .int 0, .int 0, .ref q17, .ref q18, .ref q19, .ref q20])), (q1, .inl (g.2.1 2, 940, .inl (fun _ => 0))), (q2, .inl (g.2.1 0, 397, .inl (fun _ => 0))), (q3, .inl (g.2.1 0, 89, .inl (fun _ => 0))), (q4, .inl (g.2.1 0, 160, .inl (fun _ => 0))), (q5, .inl (g.2.1 1, 28, .inr (.inl (fun _ => 0)))), (q6, .inl (g.2.1 1, 22, .inr (.inl (vp_updL (vp_updL (vp_updL (vp_updL (vp_updL (vp_updL (vp_updL (vp_updL (vp_updL (vp_updL (vp_updL (vp_updL (vp_updL (vp_updL (vp_updL (vp_updL (vp_updL (vp_updL (vp_updL (vp_updL (vp_updL (vp_updL (fun _ => 0) 0 109330312357234) 1 126943972648308) 2 123581014175598) 3 1852143732) 4 28832959090882419) 5 1735353715) 6 431416635507) 7 119182682645875) 8 448445703539) 9 120299592184933) 10 28530) 11 6385252) 12 7237492) 13 418431069797) 14 125797149402468) 15 1768189029) 16 24948) 17 418330731890) 18 1651863155) 19 1818584692) 20 108187682958948) 21 121450625394034)))), (q7, .inl (g.2.1 0, 64, .inl (fun _ => 0))), (q8, .inl (g.2.1 0, 6, .inl (fun _ => 0))), (q9, .inl (g.2.1 0, 1016, .inl (fun _ => 0))), (q10, .inl (g.2.1 0, 127, .inl (fun _ => 0))), (q11, .inl (g.2.1 0, 8, .inl (fun _ => 0))), (q12, .inl (g.2.1 0, 448, .inl (fun _ => 0))), (q13, .inl (g.2.1 0, 6, .inl (fun _ => 0))), (q14, .inl (g.2.1 2, 48, .inl (fun _ => 0))), (q15, .inl (g.2.1 0, 4, .inl (fun _ => 0))), (q16, .inl (g.2.1 0, 45, .inl (fun _ => 0))), (q17, .inl (g.2.1 3, 45, .inl (fun _ => 0))), (q18, .inl (g.2.1 0, 794, .inl (fun _ => 0))), (q19, .inl (g.2.1 1, 28, .inr (.inl (fun _ => 0)))), (q20, .inl (g.2.1 3, 2, .inl (fun _ => 0)))]) [19, 0, 1, 20, 2, 3, 4, 5, 6, 7, 8, 9, 10, 11, 12, 13, 14, 15, 16, 17, 18] rfl rfl rfl ?_
  refine ny_iconst (pc' := 397) dX12_init_396 rfl kiconst_0 ?_
  refine ny_istore_n (L' := [(1, .int 0), (0, .ref h0)]) (pc' := 398) dX12_init_397 rfl rfl (by decide) rfl ?_
  refine ny_eq (ws' := wX12 g (fun i => ([h0, q1, q2, q3, q4, q5, q6, q7, q8, q9, q10, q11, q12, q13, q14, q15, q16, q17, q18, q19, q20] : List Nat).getD i 0)) rfl ?_
  obtain ⟨a, ha⟩ : ∃ a : Nat → Nat, a = (fun i => ([h0, q1, q2, q3, q4, q5, q6, q7, q8, q9, q10, q11, q12, q13, q14, q15, q16, q17, q18, q19, q20] : List Nat).getD i 0) := ⟨_, rfl⟩
  rw [← ha]
  have h0e : h0 = a 0 := by rw [ha]; rfl
  rw [h0e]
  have HL : ∀ (r i : Nat), i ≤ 89 → 90 ≤ i + r → yR g A 2 20 4277 YX12_init 398 [(0, .ref (a 0)), (1, .int (nI i))] [] (wX12 g a) 20 4277 (fun v w => v = none ∧ ∃ b : Nat → Nat, b 0 = a 0 ∧ w = wX12 g b) := by
    intro r
    induction r with
    | zero => intro i h1 h2; omega
    | succ r ih =>
      intro i h1 h2
      refine ny_iload_n 1 (pc' := 399) dX12_init_398 rfl rfl rfl ?_
      refine ny_bipush (pc' := 401) dX12_init_399 rfl kbipush_89 ?_
      refine ny_icmp_ge (tgt := 422) (pc' := 404) dX12_init_401 rfl (by decide) (fun c => ?_) (fun c => ?_)
      · exact ny_vret dX12_init_422 rfl (Nat.le_of_ble_eq_true rfl) (Nat.le_of_ble_eq_true rfl) ⟨rfl, a, rfl, rfl⟩
      · have hi : i < 89 := by
          rcases Nat.lt_or_ge i 89 with z | z
          · exact z
          · exact absurd ((nI_leI (a := 89) (b := i) (by decide) (by omega)).mpr z) c
        refine ny_aload_n 0 (pc' := 405) dX12_init_404 rfl rfl rfl ?_
        refine ny_get (i := 0) (v := .ref (a 2)) (pc' := 408) dX12_init_405 rfl flX12_33 rfl rfl ?_
        refine ny_iload_n 1 (pc' := 409) dX12_init_408 rfl rfl rfl ?_
        refine ny_aload_n 0 (pc' := 410) dX12_init_409 rfl rfl rfl ?_
        refine ny_get (i := 0) (v := .ref (a 3)) (pc' := 413) dX12_init_410 rfl flX12_37 rfl rfl ?_
        refine ny_iload_n 1 (pc' := 414) dX12_init_413 rfl rfl rfl ?_
        refine ny_iald (i := 3) (f := fun _ => 0) (n := 89) (pc' := 415) dX12_init_414 rfl rfl (vp_in_nI hi (by decide)) ?_
        refine ny_iast (i := 2) (f := fun _ => 0) (n := 397) (ws' := wX12 g a) (pc' := 416) dX12_init_415 rfl rfl (vp_in_nI (by omega) (by decide)) (by rw [upd_zero]; rfl) ?_
        refine ny_iinc 1 (v := nI (i + 1)) (L' := [(1, .int (nI (i + 1))), (0, .ref (a 0))]) (pc' := 419) dX12_init_416 rfl rfl (by rw [ci1]; exact nI_1 i) (by decide) rfl ?_
        refine ny_goto (tgt := 398) dX12_init_419 (by decide) ?_
        refine ny_loc [1, 0] rfl ?_
        exact ih (i + 1) (by omega) (by omega)
  refine ny_loc [1, 0] rfl ?_
  exact HL 90 0 (by omega) (by omega)
