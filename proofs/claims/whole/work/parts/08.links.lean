theorem z_ip {c : Prop} [Decidable c] {α : Type} {A B : α} {r : α} (hc : c) (h : (if c then A else B) = r) : A = r := by rw [if_pos hc] at h; exact h
theorem z_in {c : Prop} [Decidable c] {α : Type} {A B : α} {r : α} (hc : ¬ c) (h : (if c then A else B) = r) : B = r := by rw [if_neg hc] at h; exact h
theorem z_el {α β γ : Type} {f : α → γ} {g : β → γ} {a : α} {r : γ} (h : Sum.elim f g (.inl a) = r) : f a = r := h
theorem z_er {α β γ : Type} {f : α → γ} {g : β → γ} {a : β} {r : γ} (h : Sum.elim f g (.inr a) = r) : g a = r := h
theorem ln_1_15 : (Jvm.Cond.classLink "FlashTrustLaw" (7 : Nat) "FlashTrust") ∈ lw_tbl := z_in1 15 rfl
theorem ln_1_17 : (Jvm.Cond.methodLink "FlashTrustLaw" (15 : Nat) ({ cls := "FlashTrust", name := "<init>", desc := "(I)V" } : Jvm.MethodName)) ∈ lw_tbl := z_in1 17 rfl
theorem ln_1_20 : (Jvm.Cond.methodLink "FlashTrust" (3 : Nat) ({ cls := "java/lang/Object", name := "<init>", desc := "()V" } : Jvm.MethodName)) ∈ lw_tbl := z_in1 20 rfl
theorem ln_1_23 : (Jvm.Cond.classLink "FlashTrust" (9 : Nat) "FlashTrust$Row") ∈ lw_tbl := z_in1 23 rfl
theorem ln_1_25 : (Jvm.Cond.methodLink "FlashTrust" (11 : Nat) ({ cls := "FlashTrust$Row", name := "<init>", desc := "(I)V" } : Jvm.MethodName)) ∈ lw_tbl := z_in1 25 rfl
theorem ln_1_28 : (Jvm.Cond.methodLink "FlashTrust$Row" (3 : Nat) ({ cls := "java/lang/Object", name := "<init>", desc := "()V" } : Jvm.MethodName)) ∈ lw_tbl := z_in1 28 rfl
theorem ln_1_29 : (Jvm.Cond.methodLink "FlashTrust$Row" (15 : Nat) ({ cls := "java/lang/Math", name := "max", desc := "(II)I" } : Jvm.MethodName)) ∈ lw_tbl := z_in1 29 rfl
theorem ln_1_32 : (Jvm.Cond.fieldLink "FlashTrust$Row" (21 : Nat) "FlashTrust$Row" "cells" "[I") ∈ lw_tbl := z_in1 32 rfl
theorem ln_1_33 : (Jvm.Cond.fieldLink "FlashTrust$Row" (9 : Nat) "FlashTrust$Row" "size" "I") ∈ lw_tbl := z_in1 33 rfl
theorem ln_1_40 : (Jvm.Cond.classLink "FlashTrust" (18 : Nat) "FlashTrust$Shelf") ∈ lw_tbl := z_in1 40 rfl
theorem ln_1_42 : (Jvm.Cond.methodLink "FlashTrust" (24 : Nat) ({ cls := "java/lang/Math", name := "min", desc := "(II)I" } : Jvm.MethodName)) ∈ lw_tbl := z_in1 42 rfl
theorem ln_1_45 : (Jvm.Cond.methodLink "FlashTrust" (30 : Nat) ({ cls := "java/lang/Math", name := "max", desc := "(II)I" } : Jvm.MethodName)) ∈ lw_tbl := z_in1 45 rfl
theorem ln_1_46 : (Jvm.Cond.classLink "FlashTrust" (33 : Nat) "FlashTrust$Signatures") ∈ lw_tbl := z_in1 46 rfl
theorem ln_1_51 : (Jvm.Cond.methodLink "FlashTrust$Signatures" (1 : Nat) ({ cls := "java/lang/Object", name := "<init>", desc := "()V" } : Jvm.MethodName)) ∈ lw_tbl := z_in1 51 rfl
theorem ln_1_52 : (Jvm.Cond.fieldLink "FlashTrust$Signatures" (9 : Nat) "FlashTrust$Signatures" "keys" "[I") ∈ lw_tbl := z_in1 52 rfl
theorem ln_1_53 : (Jvm.Cond.fieldLink "FlashTrust$Signatures" (13 : Nat) "FlashTrust$Signatures" "hashes" "[J") ∈ lw_tbl := z_in1 53 rfl
theorem ln_1_54 : (Jvm.Cond.fieldLink "FlashTrust$Signatures" (17 : Nat) "FlashTrust$Signatures" "count" "I") ∈ lw_tbl := z_in1 54 rfl
theorem ln_1_63 : (Jvm.Cond.classLink "FlashTrust" (36 : Nat) "FlashTrust$Maker") ∈ lw_tbl := z_in1 63 rfl
theorem ln_1_65 : (Jvm.Cond.methodLink "FlashTrust" (38 : Nat) ({ cls := "FlashTrust$Maker", name := "<init>", desc := "(LFlashTrust$Signatures;)V" } : Jvm.MethodName)) ∈ lw_tbl := z_in1 65 rfl
theorem ln_1_68 : (Jvm.Cond.methodLink "FlashTrust$Maker" (3 : Nat) ({ cls := "java/lang/Object", name := "<init>", desc := "()V" } : Jvm.MethodName)) ∈ lw_tbl := z_in1 68 rfl
theorem ln_1_71 : (Jvm.Cond.methodLink "FlashTrust$Maker" (13 : Nat) ({ cls := "[I", name := "clone", desc := "()Ljava/lang/Object;" } : Jvm.MethodName)) ∈ lw_tbl := z_in1 71 rfl
theorem ln_1_77 : (Jvm.Cond.classLink "FlashTrust$Maker" (14 : Nat) "[I") ∈ lw_tbl := z_in1 77 rfl
theorem ln_1_80 : (Jvm.Cond.classLink "FlashTrust$Maker" (46 : Nat) "FlashTrust$Row") ∈ lw_tbl := z_in1 80 rfl
theorem ln_1_81 : (Jvm.Cond.methodLink "FlashTrust$Maker" (48 : Nat) ({ cls := "FlashTrust$Row", name := "<init>", desc := "(I)V" } : Jvm.MethodName)) ∈ lw_tbl := z_in1 81 rfl
theorem ln_1_82 : (Jvm.Cond.fieldLink "FlashTrust$Maker" (70 : Nat) "FlashTrust$Maker" "signatures" "LFlashTrust$Signatures;") ∈ lw_tbl := z_in1 82 rfl
theorem ln_1_83 : (Jvm.Cond.fieldLink "FlashTrust$Maker" (18 : Nat) "FlashTrust$Maker" "roleKeys" "[I") ∈ lw_tbl := z_in1 83 rfl
theorem ln_1_84 : (Jvm.Cond.fieldLink "FlashTrust$Maker" (26 : Nat) "FlashTrust$Maker" "thresholds" "[I") ∈ lw_tbl := z_in1 84 rfl
theorem ln_1_85 : (Jvm.Cond.fieldLink "FlashTrust$Maker" (29 : Nat) "FlashTrust$Maker" "images" "I") ∈ lw_tbl := z_in1 85 rfl
theorem ln_1_86 : (Jvm.Cond.fieldLink "FlashTrust$Maker" (33 : Nat) "FlashTrust$Maker" "versions" "[I") ∈ lw_tbl := z_in1 86 rfl
theorem ln_1_87 : (Jvm.Cond.fieldLink "FlashTrust$Maker" (36 : Nat) "FlashTrust$Maker" "lengths" "[I") ∈ lw_tbl := z_in1 87 rfl
theorem ln_1_88 : (Jvm.Cond.fieldLink "FlashTrust$Maker" (39 : Nat) "FlashTrust$Maker" "seeds" "[I") ∈ lw_tbl := z_in1 88 rfl
theorem ln_1_89 : (Jvm.Cond.fieldLink "FlashTrust$Maker" (42 : Nat) "FlashTrust$Maker" "hashes" "[J") ∈ lw_tbl := z_in1 89 rfl
theorem ln_1_90 : (Jvm.Cond.fieldLink "FlashTrust$Maker" (51 : Nat) "FlashTrust$Maker" "program" "LFlashTrust$Row;") ∈ lw_tbl := z_in1 90 rfl
theorem ln_1_91 : (Jvm.Cond.fieldLink "FlashTrust$Maker" (55 : Nat) "FlashTrust$Maker" "body" "LFlashTrust$Row;") ∈ lw_tbl := z_in1 91 rfl
theorem ln_1_92 : (Jvm.Cond.fieldLink "FlashTrust$Maker" (58 : Nat) "FlashTrust$Maker" "draftRole" "I") ∈ lw_tbl := z_in1 92 rfl
theorem ln_1_93 : (Jvm.Cond.fieldLink "FlashTrust$Maker" (61 : Nat) "FlashTrust$Maker" "draftKeys" "I") ∈ lw_tbl := z_in1 93 rfl
theorem ln_1_94 : (Jvm.Cond.fieldLink "FlashTrust$Maker" (64 : Nat) "FlashTrust$Maker" "lastVersions" "[I") ∈ lw_tbl := z_in1 94 rfl
theorem ln_1_95 : (Jvm.Cond.fieldLink "FlashTrust$Maker" (67 : Nat) "FlashTrust$Maker" "lastHashes" "[J") ∈ lw_tbl := z_in1 95 rfl
theorem ln_1_125 : (Jvm.Cond.classLink "FlashTrust" (45 : Nat) "FlashTrust$Flash") ∈ lw_tbl := z_in1 125 rfl
theorem ln_1_127 : (Jvm.Cond.methodLink "FlashTrust" (47 : Nat) ({ cls := "FlashTrust$Flash", name := "<init>", desc := "(I)V" } : Jvm.MethodName)) ∈ lw_tbl := z_in1 127 rfl
theorem ln_1_130 : (Jvm.Cond.methodLink "FlashTrust$Flash" (3 : Nat) ({ cls := "java/lang/Object", name := "<init>", desc := "()V" } : Jvm.MethodName)) ∈ lw_tbl := z_in1 130 rfl
theorem ln_1_131 : (Jvm.Cond.classLink "FlashTrust$Flash" (9 : Nat) "FlashTrust$Row") ∈ lw_tbl := z_in1 131 rfl
theorem ln_1_132 : (Jvm.Cond.methodLink "FlashTrust$Flash" (11 : Nat) ({ cls := "FlashTrust$Row", name := "<init>", desc := "(I)V" } : Jvm.MethodName)) ∈ lw_tbl := z_in1 132 rfl
theorem ln_1_133 : (Jvm.Cond.methodLink "FlashTrust$Flash" (37 : Nat) ({ cls := "FlashTrust$Row", name := "add", desc := "(I)V" } : Jvm.MethodName)) ∈ lw_tbl := z_in1 133 rfl
theorem ln_1_137 : (Jvm.Cond.methodLink "FlashTrust$Flash" (40 : Nat) ({ cls := "FlashTrust$Flash", name := "slotStart", desc := "(I)I" } : Jvm.MethodName)) ∈ lw_tbl := z_in1 137 rfl
theorem ln_1_140 : (Jvm.Cond.methodLink "FlashTrust$Flash" (44 : Nat) ({ cls := "FlashTrust$Row", name := "set", desc := "(II)V" } : Jvm.MethodName)) ∈ lw_tbl := z_in1 140 rfl
theorem ln_1_144 : (Jvm.Cond.fieldLink "FlashTrust$Flash" (14 : Nat) "FlashTrust$Flash" "cells" "LFlashTrust$Row;") ∈ lw_tbl := z_in1 144 rfl
theorem ln_1_145 : (Jvm.Cond.fieldLink "FlashTrust$Entry" (36 : Nat) "FlashTrust$Flash" "cells" "LFlashTrust$Row;") ∈ lw_tbl := z_in1 145 rfl
theorem ln_1_146 : (Jvm.Cond.fieldLink "FlashTrust$States" (119 : Nat) "FlashTrust$Flash" "cells" "LFlashTrust$Row;") ∈ lw_tbl := z_in1 146 rfl
theorem ln_1_147 : (Jvm.Cond.fieldLink "FlashTrust" (227 : Nat) "FlashTrust$Flash" "cells" "LFlashTrust$Row;") ∈ lw_tbl := z_in1 147 rfl
theorem ln_1_148 : (Jvm.Cond.fieldLink "FlashTrust$Flash" (20 : Nat) "FlashTrust$Flash" "writings" "I") ∈ lw_tbl := z_in1 148 rfl
theorem ln_1_149 : (Jvm.Cond.fieldLink "FlashTrust" (195 : Nat) "FlashTrust$Flash" "writings" "I") ∈ lw_tbl := z_in1 149 rfl
theorem ln_1_150 : (Jvm.Cond.fieldLink "FlashTrust$Flash" (24 : Nat) "FlashTrust$Flash" "erasings" "I") ∈ lw_tbl := z_in1 150 rfl
theorem ln_1_151 : (Jvm.Cond.fieldLink "FlashTrust" (198 : Nat) "FlashTrust$Flash" "erasings" "I") ∈ lw_tbl := z_in1 151 rfl
theorem ln_1_152 : (Jvm.Cond.fieldLink "FlashTrust$Flash" (27 : Nat) "FlashTrust$Flash" "left" "I") ∈ lw_tbl := z_in1 152 rfl
theorem ln_1_153 : (Jvm.Cond.fieldLink "FlashTrust" (201 : Nat) "FlashTrust$Flash" "left" "I") ∈ lw_tbl := z_in1 153 rfl
theorem ln_1_154 : (Jvm.Cond.fieldLink "FlashTrust$Flash" (30 : Nat) "FlashTrust$Flash" "mask" "I") ∈ lw_tbl := z_in1 154 rfl
theorem ln_1_155 : (Jvm.Cond.fieldLink "FlashTrust$Flash" (33 : Nat) "FlashTrust$Flash" "down" "Z") ∈ lw_tbl := z_in1 155 rfl
theorem ln_1_170 : (Jvm.Cond.methodLink "FlashTrust" (52 : Nat) ({ cls := "FlashTrust$Shelf", name := "<init>", desc := "(LFlashTrust$Flash;I)V" } : Jvm.MethodName)) ∈ lw_tbl := z_in1 170 rfl
theorem ln_1_173 : (Jvm.Cond.methodLink "FlashTrust$Shelf" (3 : Nat) ({ cls := "java/lang/Object", name := "<init>", desc := "()V" } : Jvm.MethodName)) ∈ lw_tbl := z_in1 173 rfl
theorem ln_1_174 : (Jvm.Cond.classLink "FlashTrust$Shelf" (9 : Nat) "FlashTrust$Paper") ∈ lw_tbl := z_in1 174 rfl
theorem ln_1_179 : (Jvm.Cond.methodLink "FlashTrust$Paper" (3 : Nat) ({ cls := "java/lang/Object", name := "<init>", desc := "()V" } : Jvm.MethodName)) ∈ lw_tbl := z_in1 179 rfl
theorem ln_1_180 : (Jvm.Cond.classLink "FlashTrust$Paper" (9 : Nat) "FlashTrust$Row") ∈ lw_tbl := z_in1 180 rfl
theorem ln_1_181 : (Jvm.Cond.methodLink "FlashTrust$Paper" (11 : Nat) ({ cls := "FlashTrust$Row", name := "<init>", desc := "(I)V" } : Jvm.MethodName)) ∈ lw_tbl := z_in1 181 rfl
theorem ln_1_182 : (Jvm.Cond.fieldLink "FlashTrust$Paper" (14 : Nat) "FlashTrust$Paper" "bytes" "LFlashTrust$Row;") ∈ lw_tbl := z_in1 182 rfl
theorem ln_1_183 : (Jvm.Cond.fieldLink "FlashTrust$Update" (115 : Nat) "FlashTrust$Paper" "bytes" "LFlashTrust$Row;") ∈ lw_tbl := z_in1 183 rfl
theorem ln_1_184 : (Jvm.Cond.fieldLink "FlashTrust$Paper" (37 : Nat) "FlashTrust$Paper" "role" "I") ∈ lw_tbl := z_in1 184 rfl
theorem ln_1_185 : (Jvm.Cond.fieldLink "FlashTrust$Entry" (60 : Nat) "FlashTrust$Paper" "role" "I") ∈ lw_tbl := z_in1 185 rfl
theorem ln_1_186 : (Jvm.Cond.fieldLink "FlashTrust$Update" (96 : Nat) "FlashTrust$Paper" "role" "I") ∈ lw_tbl := z_in1 186 rfl
theorem ln_1_187 : (Jvm.Cond.fieldLink "FlashTrust$Paper" (41 : Nat) "FlashTrust$Paper" "version" "I") ∈ lw_tbl := z_in1 187 rfl
theorem ln_1_188 : (Jvm.Cond.fieldLink "FlashTrust$Update" (69 : Nat) "FlashTrust$Paper" "version" "I") ∈ lw_tbl := z_in1 188 rfl
theorem ln_1_189 : (Jvm.Cond.fieldLink "FlashTrust$Paper" (46 : Nat) "FlashTrust$Paper" "end" "J") ∈ lw_tbl := z_in1 189 rfl
theorem ln_1_190 : (Jvm.Cond.fieldLink "FlashTrust$Update" (84 : Nat) "FlashTrust$Paper" "end" "J") ∈ lw_tbl := z_in1 190 rfl
theorem ln_1_191 : (Jvm.Cond.fieldLink "FlashTrust$Paper" (50 : Nat) "FlashTrust$Paper" "keys" "I") ∈ lw_tbl := z_in1 191 rfl
theorem ln_1_192 : (Jvm.Cond.fieldLink "FlashTrust$Update" (118 : Nat) "FlashTrust$Paper" "keys" "I") ∈ lw_tbl := z_in1 192 rfl
theorem ln_1_193 : (Jvm.Cond.fieldLink "FlashTrust$Paper" (87 : Nat) "FlashTrust$Paper" "bodyHash" "J") ∈ lw_tbl := z_in1 193 rfl
theorem ln_1_194 : (Jvm.Cond.fieldLink "FlashTrust$Update" (125 : Nat) "FlashTrust$Paper" "bodyHash" "J") ∈ lw_tbl := z_in1 194 rfl
theorem ln_1_195 : (Jvm.Cond.fieldLink "FlashTrust$Paper" (74 : Nat) "FlashTrust$Paper" "bodyLength" "I") ∈ lw_tbl := z_in1 195 rfl
theorem ln_1_196 : (Jvm.Cond.fieldLink "FlashTrust$Paper" (20 : Nat) "FlashTrust$Paper" "roleKeys" "[I") ∈ lw_tbl := z_in1 196 rfl
theorem ln_1_197 : (Jvm.Cond.fieldLink "FlashTrust$Update" (121 : Nat) "FlashTrust$Paper" "roleKeys" "[I") ∈ lw_tbl := z_in1 197 rfl
theorem ln_1_198 : (Jvm.Cond.fieldLink "FlashTrust$Paper" (24 : Nat) "FlashTrust$Paper" "thresholds" "[I") ∈ lw_tbl := z_in1 198 rfl
theorem ln_1_199 : (Jvm.Cond.fieldLink "FlashTrust$Update" (134 : Nat) "FlashTrust$Paper" "thresholds" "[I") ∈ lw_tbl := z_in1 199 rfl
theorem ln_1_200 : (Jvm.Cond.fieldLink "FlashTrust$Paper" (107 : Nat) "FlashTrust$Paper" "toldVersion" "I") ∈ lw_tbl := z_in1 200 rfl
theorem ln_1_201 : (Jvm.Cond.fieldLink "FlashTrust$Update" (72 : Nat) "FlashTrust$Paper" "toldVersion" "I") ∈ lw_tbl := z_in1 201 rfl
theorem ln_1_202 : (Jvm.Cond.fieldLink "FlashTrust$Paper" (110 : Nat) "FlashTrust$Paper" "toldHash" "J") ∈ lw_tbl := z_in1 202 rfl
theorem ln_1_203 : (Jvm.Cond.fieldLink "FlashTrust$Update" (157 : Nat) "FlashTrust$Paper" "toldHash" "J") ∈ lw_tbl := z_in1 203 rfl
theorem ln_1_204 : (Jvm.Cond.fieldLink "FlashTrust$Paper" (113 : Nat) "FlashTrust$Paper" "images" "I") ∈ lw_tbl := z_in1 204 rfl
theorem ln_1_205 : (Jvm.Cond.fieldLink "FlashTrust$Update" (160 : Nat) "FlashTrust$Paper" "images" "I") ∈ lw_tbl := z_in1 205 rfl
theorem ln_1_206 : (Jvm.Cond.fieldLink "FlashTrust$Paper" (27 : Nat) "FlashTrust$Paper" "imageVersions" "[I") ∈ lw_tbl := z_in1 206 rfl
theorem ln_1_207 : (Jvm.Cond.fieldLink "FlashTrust$Update" (163 : Nat) "FlashTrust$Paper" "imageVersions" "[I") ∈ lw_tbl := z_in1 207 rfl
theorem ln_1_208 : (Jvm.Cond.fieldLink "FlashTrust$Paper" (30 : Nat) "FlashTrust$Paper" "imageLengths" "[I") ∈ lw_tbl := z_in1 208 rfl
theorem ln_1_209 : (Jvm.Cond.fieldLink "FlashTrust$Update" (167 : Nat) "FlashTrust$Paper" "imageLengths" "[I") ∈ lw_tbl := z_in1 209 rfl
theorem ln_1_210 : (Jvm.Cond.fieldLink "FlashTrust$Paper" (33 : Nat) "FlashTrust$Paper" "imageHashes" "[J") ∈ lw_tbl := z_in1 210 rfl
theorem ln_1_211 : (Jvm.Cond.fieldLink "FlashTrust$Update" (170 : Nat) "FlashTrust$Paper" "imageHashes" "[J") ∈ lw_tbl := z_in1 211 rfl
theorem ln_2_3 : (Jvm.Cond.classLink "FlashTrust$Shelf" (18 : Nat) "FlashTrust$Row") ∈ lw_tbl := z_in2 3 rfl
theorem ln_2_4 : (Jvm.Cond.methodLink "FlashTrust$Shelf" (20 : Nat) ({ cls := "FlashTrust$Row", name := "<init>", desc := "(I)V" } : Jvm.MethodName)) ∈ lw_tbl := z_in2 4 rfl
theorem ln_2_5 : (Jvm.Cond.classLink "FlashTrust$Shelf" (31 : Nat) "FlashTrust$Entry") ∈ lw_tbl := z_in2 5 rfl
theorem ln_2_7 : (Jvm.Cond.methodLink "FlashTrust$Shelf" (33 : Nat) ({ cls := "FlashTrust$Entry", name := "<init>", desc := "(LFlashTrust$Flash;II)V" } : Jvm.MethodName)) ∈ lw_tbl := z_in2 7 rfl
theorem ln_2_10 : (Jvm.Cond.methodLink "FlashTrust$Entry" (3 : Nat) ({ cls := "java/lang/Object", name := "<init>", desc := "()V" } : Jvm.MethodName)) ∈ lw_tbl := z_in2 10 rfl
theorem ln_2_11 : (Jvm.Cond.classLink "FlashTrust$Entry" (9 : Nat) "FlashTrust$Paper") ∈ lw_tbl := z_in2 11 rfl
theorem ln_2_13 : (Jvm.Cond.fieldLink "FlashTrust$Entry" (26 : Nat) "FlashTrust$Entry" "flash" "LFlashTrust$Flash;") ∈ lw_tbl := z_in2 13 rfl
theorem ln_2_14 : (Jvm.Cond.fieldLink "FlashTrust$Entry" (30 : Nat) "FlashTrust$Entry" "role" "I") ∈ lw_tbl := z_in2 14 rfl
theorem ln_2_15 : (Jvm.Cond.fieldLink "FlashTrust$Entry" (33 : Nat) "FlashTrust$Entry" "sector" "I") ∈ lw_tbl := z_in2 15 rfl
theorem ln_2_16 : (Jvm.Cond.fieldLink "FlashTrust$Shelf" (108 : Nat) "FlashTrust$Entry" "sector" "I") ∈ lw_tbl := z_in2 16 rfl
theorem ln_2_17 : (Jvm.Cond.fieldLink "FlashTrust$Entry" (12 : Nat) "FlashTrust$Entry" "paper" "LFlashTrust$Paper;") ∈ lw_tbl := z_in2 17 rfl
theorem ln_2_18 : (Jvm.Cond.fieldLink "FlashTrust$Shelf" (74 : Nat) "FlashTrust$Entry" "paper" "LFlashTrust$Paper;") ∈ lw_tbl := z_in2 18 rfl
theorem ln_2_19 : (Jvm.Cond.fieldLink "FlashTrust$Entry" (18 : Nat) "FlashTrust$Entry" "number" "I") ∈ lw_tbl := z_in2 19 rfl
theorem ln_2_20 : (Jvm.Cond.fieldLink "FlashTrust$Shelf" (50 : Nat) "FlashTrust$Entry" "number" "I") ∈ lw_tbl := z_in2 20 rfl
theorem ln_2_21 : (Jvm.Cond.fieldLink "FlashTrust$Entry" (22 : Nat) "FlashTrust$Entry" "holds" "Z") ∈ lw_tbl := z_in2 21 rfl
theorem ln_2_22 : (Jvm.Cond.fieldLink "FlashTrust$Shelf" (71 : Nat) "FlashTrust$Entry" "holds" "Z") ∈ lw_tbl := z_in2 22 rfl
theorem ln_2_36 : (Jvm.Cond.methodLink "FlashTrust$Shelf" (47 : Nat) ({ cls := "FlashTrust$Paper", name := "becomeFactoryRoot", desc := "()V" } : Jvm.MethodName)) ∈ lw_tbl := z_in2 36 rfl
theorem ln_2_40 : (Jvm.Cond.constantLong "FlashTrust$Paper" (44 : Nat) (1000 : Int64)) ∈ lw_tbl := z_in2 40 rfl
theorem ln_2_43 : (Jvm.Cond.fieldLink "FlashTrust$Shelf" (27 : Nat) "FlashTrust$Shelf" "flash" "LFlashTrust$Flash;") ∈ lw_tbl := z_in2 43 rfl
theorem ln_2_44 : (Jvm.Cond.fieldLink "FlashTrust$Shelf" (36 : Nat) "FlashTrust$Shelf" "first" "LFlashTrust$Entry;") ∈ lw_tbl := z_in2 44 rfl
theorem ln_2_45 : (Jvm.Cond.fieldLink "FlashTrust$Shelf" (40 : Nat) "FlashTrust$Shelf" "second" "LFlashTrust$Entry;") ∈ lw_tbl := z_in2 45 rfl
theorem ln_2_46 : (Jvm.Cond.fieldLink "FlashTrust$Shelf" (12 : Nat) "FlashTrust$Shelf" "factory" "LFlashTrust$Paper;") ∈ lw_tbl := z_in2 46 rfl
theorem ln_2_47 : (Jvm.Cond.fieldLink "FlashTrust$Shelf" (43 : Nat) "FlashTrust$Shelf" "hasFactory" "Z") ∈ lw_tbl := z_in2 47 rfl
theorem ln_2_48 : (Jvm.Cond.fieldLink "FlashTrust$Shelf" (23 : Nat) "FlashTrust$Shelf" "kept" "LFlashTrust$Row;") ∈ lw_tbl := z_in2 48 rfl
theorem ln_2_62 : (Jvm.Cond.classLink "FlashTrust" (55 : Nat) "FlashTrust$States") ∈ lw_tbl := z_in2 62 rfl
theorem ln_2_64 : (Jvm.Cond.methodLink "FlashTrust" (57 : Nat) ({ cls := "FlashTrust$States", name := "<init>", desc := "(LFlashTrust$Flash;I)V" } : Jvm.MethodName)) ∈ lw_tbl := z_in2 64 rfl
theorem ln_2_67 : (Jvm.Cond.methodLink "FlashTrust$States" (3 : Nat) ({ cls := "java/lang/Object", name := "<init>", desc := "()V" } : Jvm.MethodName)) ∈ lw_tbl := z_in2 67 rfl
theorem ln_2_68 : (Jvm.Cond.classLink "FlashTrust$States" (9 : Nat) "FlashTrust$Row") ∈ lw_tbl := z_in2 68 rfl
theorem ln_2_69 : (Jvm.Cond.methodLink "FlashTrust$States" (11 : Nat) ({ cls := "FlashTrust$Row", name := "<init>", desc := "(I)V" } : Jvm.MethodName)) ∈ lw_tbl := z_in2 69 rfl
theorem ln_2_70 : (Jvm.Cond.methodLink "FlashTrust$States" (34 : Nat) ({ cls := "FlashTrust$Flash", name := "programHash", desc := "(II)J" } : Jvm.MethodName)) ∈ lw_tbl := z_in2 70 rfl
theorem ln_2_74 : (Jvm.Cond.methodLink "FlashTrust$Flash" (69 : Nat) ({ cls := "FlashTrust$Row", name := "hash", desc := "(II)J" } : Jvm.MethodName)) ∈ lw_tbl := z_in2 74 rfl
theorem ln_2_78 : (Jvm.Cond.constantLong "FlashTrust$Row" (40 : Nat) (1469598103934665603 : Int64)) ∈ lw_tbl := z_in2 78 rfl
theorem ln_2_79 : (Jvm.Cond.constantLong "FlashTrust$Row" (42 : Nat) (1099511628211 : Int64)) ∈ lw_tbl := z_in2 79 rfl
theorem ln_2_80 : (Jvm.Cond.methodLink "FlashTrust$Flash" (73 : Nat) ({ cls := "FlashTrust$Flash", name := "lowest", desc := "(J)J" } : Jvm.MethodName)) ∈ lw_tbl := z_in2 80 rfl
theorem ln_2_83 : (Jvm.Cond.constantLong "FlashTrust$Flash" (77 : Nat) (281474976710655 : Int64)) ∈ lw_tbl := z_in2 83 rfl
theorem ln_2_84 : (Jvm.Cond.fieldLink "FlashTrust$States" (27 : Nat) "FlashTrust$States" "flash" "LFlashTrust$Flash;") ∈ lw_tbl := z_in2 84 rfl
theorem ln_2_85 : (Jvm.Cond.fieldLink "FlashTrust$States" (31 : Nat) "FlashTrust$States" "factoryLength" "I") ∈ lw_tbl := z_in2 85 rfl
theorem ln_2_86 : (Jvm.Cond.fieldLink "FlashTrust$States" (40 : Nat) "FlashTrust$States" "factoryHash" "J") ∈ lw_tbl := z_in2 86 rfl
theorem ln_2_87 : (Jvm.Cond.fieldLink "FlashTrust$States" (14 : Nat) "FlashTrust$States" "page" "LFlashTrust$Row;") ∈ lw_tbl := z_in2 87 rfl
theorem ln_2_88 : (Jvm.Cond.fieldLink "FlashTrust$States" (20 : Nat) "FlashTrust$States" "place" "I") ∈ lw_tbl := z_in2 88 rfl
theorem ln_2_89 : (Jvm.Cond.fieldLink "FlashTrust$States" (24 : Nat) "FlashTrust$States" "number" "I") ∈ lw_tbl := z_in2 89 rfl
theorem ln_2_90 : (Jvm.Cond.fieldLink "FlashTrust$States" (57 : Nat) "FlashTrust$States" "slot" "I") ∈ lw_tbl := z_in2 90 rfl
theorem ln_2_91 : (Jvm.Cond.fieldLink "FlashTrust$Loader" (71 : Nat) "FlashTrust$States" "slot" "I") ∈ lw_tbl := z_in2 91 rfl
theorem ln_2_92 : (Jvm.Cond.fieldLink "FlashTrust$States" (60 : Nat) "FlashTrust$States" "version" "I") ∈ lw_tbl := z_in2 92 rfl
theorem ln_2_93 : (Jvm.Cond.fieldLink "FlashTrust$Loader" (80 : Nat) "FlashTrust$States" "version" "I") ∈ lw_tbl := z_in2 93 rfl
theorem ln_2_94 : (Jvm.Cond.fieldLink "FlashTrust$Update" (166 : Nat) "FlashTrust$States" "version" "I") ∈ lw_tbl := z_in2 94 rfl
theorem ln_2_95 : (Jvm.Cond.fieldLink "FlashTrust$States" (63 : Nat) "FlashTrust$States" "length" "I") ∈ lw_tbl := z_in2 95 rfl
theorem ln_2_96 : (Jvm.Cond.fieldLink "FlashTrust$Loader" (74 : Nat) "FlashTrust$States" "length" "I") ∈ lw_tbl := z_in2 96 rfl
theorem ln_2_97 : (Jvm.Cond.fieldLink "FlashTrust$States" (66 : Nat) "FlashTrust$States" "hash" "J") ∈ lw_tbl := z_in2 97 rfl
theorem ln_2_98 : (Jvm.Cond.fieldLink "FlashTrust$Loader" (77 : Nat) "FlashTrust$States" "hash" "J") ∈ lw_tbl := z_in2 98 rfl
theorem ln_2_99 : (Jvm.Cond.fieldLink "FlashTrust$States" (73 : Nat) "FlashTrust$States" "staged" "I") ∈ lw_tbl := z_in2 99 rfl
theorem ln_2_100 : (Jvm.Cond.fieldLink "FlashTrust$Loader" (30 : Nat) "FlashTrust$States" "staged" "I") ∈ lw_tbl := z_in2 100 rfl
theorem ln_2_101 : (Jvm.Cond.fieldLink "FlashTrust$Update" (182 : Nat) "FlashTrust$States" "staged" "I") ∈ lw_tbl := z_in2 101 rfl
theorem ln_2_102 : (Jvm.Cond.fieldLink "FlashTrust$States" (76 : Nat) "FlashTrust$States" "stagedVersion" "I") ∈ lw_tbl := z_in2 102 rfl
theorem ln_2_103 : (Jvm.Cond.fieldLink "FlashTrust$Loader" (68 : Nat) "FlashTrust$States" "stagedVersion" "I") ∈ lw_tbl := z_in2 103 rfl
theorem ln_2_104 : (Jvm.Cond.fieldLink "FlashTrust$Update" (75 : Nat) "FlashTrust$States" "stagedVersion" "I") ∈ lw_tbl := z_in2 104 rfl
theorem ln_2_105 : (Jvm.Cond.fieldLink "FlashTrust$States" (79 : Nat) "FlashTrust$States" "stagedLength" "I") ∈ lw_tbl := z_in2 105 rfl
theorem ln_2_106 : (Jvm.Cond.fieldLink "FlashTrust$Loader" (57 : Nat) "FlashTrust$States" "stagedLength" "I") ∈ lw_tbl := z_in2 106 rfl
theorem ln_2_107 : (Jvm.Cond.fieldLink "FlashTrust$Update" (202 : Nat) "FlashTrust$States" "stagedLength" "I") ∈ lw_tbl := z_in2 107 rfl
theorem ln_2_108 : (Jvm.Cond.fieldLink "FlashTrust$States" (82 : Nat) "FlashTrust$States" "stagedHash" "J") ∈ lw_tbl := z_in2 108 rfl
theorem ln_2_109 : (Jvm.Cond.fieldLink "FlashTrust$Loader" (64 : Nat) "FlashTrust$States" "stagedHash" "J") ∈ lw_tbl := z_in2 109 rfl
theorem ln_2_110 : (Jvm.Cond.fieldLink "FlashTrust$Update" (224 : Nat) "FlashTrust$States" "stagedHash" "J") ∈ lw_tbl := z_in2 110 rfl
theorem ln_2_140 : (Jvm.Cond.methodLink "FlashTrust" (62 : Nat) ({ cls := "FlashTrust$States", name := "install", desc := "()V" } : Jvm.MethodName)) ∈ lw_tbl := z_in2 140 rfl
theorem ln_2_144 : (Jvm.Cond.methodLink "FlashTrust$States" (44 : Nat) ({ cls := "FlashTrust$States", name := "becomeFactory", desc := "()V" } : Jvm.MethodName)) ∈ lw_tbl := z_in2 144 rfl
theorem ln_2_148 : (Jvm.Cond.methodLink "FlashTrust$States" (69 : Nat) ({ cls := "FlashTrust$States", name := "stage", desc := "(IIIJ)V" } : Jvm.MethodName)) ∈ lw_tbl := z_in2 148 rfl
theorem ln_2_152 : (Jvm.Cond.methodLink "FlashTrust$States" (47 : Nat) ({ cls := "FlashTrust$States", name := "compose", desc := "(I)V" } : Jvm.MethodName)) ∈ lw_tbl := z_in2 152 rfl
theorem ln_2_156 : (Jvm.Cond.methodLink "FlashTrust$States" (106 : Nat) ({ cls := "FlashTrust$Row", name := "empty", desc := "()V" } : Jvm.MethodName)) ∈ lw_tbl := z_in2 156 rfl
theorem ln_2_160 : (Jvm.Cond.methodLink "FlashTrust$States" (109 : Nat) ({ cls := "FlashTrust$Row", name := "addNumber", desc := "(JI)V" } : Jvm.MethodName)) ∈ lw_tbl := z_in2 160 rfl
theorem ln_2_164 : (Jvm.Cond.methodLink "FlashTrust$Row" (25 : Nat) ({ cls := "FlashTrust$Row", name := "add", desc := "(I)V" } : Jvm.MethodName)) ∈ lw_tbl := z_in2 164 rfl
theorem ln_2_165 : (Jvm.Cond.methodLink "FlashTrust$States" (113 : Nat) ({ cls := "FlashTrust$Row", name := "hash", desc := "(II)J" } : Jvm.MethodName)) ∈ lw_tbl := z_in2 165 rfl
theorem ln_2_166 : (Jvm.Cond.methodLink "FlashTrust$States" (115 : Nat) ({ cls := "FlashTrust$Row", name := "checkOf", desc := "(J)J" } : Jvm.MethodName)) ∈ lw_tbl := z_in2 166 rfl
theorem ln_2_169 : (Jvm.Cond.constantLong "FlashTrust$Row" (44 : Nat) (4294967295 : Int64)) ∈ lw_tbl := z_in2 169 rfl
theorem ln_2_170 : (Jvm.Cond.methodLink "FlashTrust$States" (50 : Nat) ({ cls := "FlashTrust$Flash", name := "burn", desc := "(ILFlashTrust$Row;I)V" } : Jvm.MethodName)) ∈ lw_tbl := z_in2 170 rfl
theorem ln_2_174 : (Jvm.Cond.methodLink "FlashTrust$Flash" (56 : Nat) ({ cls := "FlashTrust$Row", name := "at", desc := "(I)I" } : Jvm.MethodName)) ∈ lw_tbl := z_in2 174 rfl
theorem ln_2_178 : (Jvm.Cond.methodLink "FlashTrust$States" (54 : Nat) ({ cls := "FlashTrust$States", name := "look", desc := "()V" } : Jvm.MethodName)) ∈ lw_tbl := z_in2 178 rfl
theorem ln_2_182 : (Jvm.Cond.methodLink "FlashTrust$States" (122 : Nat) ({ cls := "FlashTrust$Row", name := "number", desc := "(II)J" } : Jvm.MethodName)) ∈ lw_tbl := z_in2 182 rfl
theorem ln_2_186 : (Jvm.Cond.constantLong "FlashTrust$Row" (33 : Nat) (-1 : Int64)) ∈ lw_tbl := z_in2 186 rfl
theorem ln_2_187 : (Jvm.Cond.constantLong "FlashTrust$States" (124 : Nat) (2147483647 : Int64)) ∈ lw_tbl := z_in2 187 rfl
theorem ln_2_188 : (Jvm.Cond.methodLink "FlashTrust$States" (126 : Nat) ({ cls := "FlashTrust$States", name := "fits", desc := "(I)Z" } : Jvm.MethodName)) ∈ lw_tbl := z_in2 188 rfl
theorem ln_2_192 : (Jvm.Cond.methodLink "FlashTrust$States" (132 : Nat) ({ cls := "FlashTrust$Row", name := "at", desc := "(I)I" } : Jvm.MethodName)) ∈ lw_tbl := z_in2 192 rfl
theorem ln_2_193 : (Jvm.Cond.methodLink "FlashTrust$States" (135 : Nat) ({ cls := "FlashTrust$States", name := "isProgramLength", desc := "(J)Z" } : Jvm.MethodName)) ∈ lw_tbl := z_in2 193 rfl
theorem ln_2_196 : (Jvm.Cond.constantLong "FlashTrust$States" (139 : Nat) (1024 : Int64)) ∈ lw_tbl := z_in2 196 rfl
theorem ln_2_197 : (Jvm.Cond.methodLink "FlashTrust$States" (129 : Nat) ({ cls := "FlashTrust$States", name := "load", desc := "(I)V" } : Jvm.MethodName)) ∈ lw_tbl := z_in2 197 rfl
theorem ln_2_201 : (Jvm.Cond.classLink "FlashTrust" (65 : Nat) "FlashTrust$Loader") ∈ lw_tbl := z_in2 201 rfl
theorem ln_2_203 : (Jvm.Cond.methodLink "FlashTrust" (67 : Nat) ({ cls := "FlashTrust$Loader", name := "<init>", desc := "(LFlashTrust$Flash;LFlashTrust$States;)V" } : Jvm.MethodName)) ∈ lw_tbl := z_in2 203 rfl
theorem ln_2_206 : (Jvm.Cond.methodLink "FlashTrust$Loader" (3 : Nat) ({ cls := "java/lang/Object", name := "<init>", desc := "()V" } : Jvm.MethodName)) ∈ lw_tbl := z_in2 206 rfl
theorem ln_2_207 : (Jvm.Cond.fieldLink "FlashTrust$Loader" (19 : Nat) "FlashTrust$Loader" "flash" "LFlashTrust$Flash;") ∈ lw_tbl := z_in2 207 rfl
theorem ln_2_208 : (Jvm.Cond.fieldLink "FlashTrust$Loader" (23 : Nat) "FlashTrust$Loader" "states" "LFlashTrust$States;") ∈ lw_tbl := z_in2 208 rfl
theorem ln_2_209 : (Jvm.Cond.fieldLink "FlashTrust$Loader" (9 : Nat) "FlashTrust$Loader" "running" "I") ∈ lw_tbl := z_in2 209 rfl
theorem ln_2_210 : (Jvm.Cond.fieldLink "FlashTrust" (192 : Nat) "FlashTrust$Loader" "running" "I") ∈ lw_tbl := z_in2 210 rfl
theorem ln_2_211 : (Jvm.Cond.fieldLink "FlashTrust$Loader" (15 : Nat) "FlashTrust$Loader" "onTrial" "Z") ∈ lw_tbl := z_in2 211 rfl
theorem ln_2_212 : (Jvm.Cond.fieldLink "FlashTrust" (182 : Nat) "FlashTrust$Loader" "onTrial" "Z") ∈ lw_tbl := z_in2 212 rfl
theorem ln_2_222 : (Jvm.Cond.classLink "FlashTrust" (74 : Nat) "FlashTrust$Update") ∈ lw_tbl := z_in2 222 rfl
theorem ln_2_224 : (Jvm.Cond.methodLink "FlashTrust" (76 : Nat) ({ cls := "FlashTrust$Update", name := "<init>", desc := "(LFlashTrust$Flash;[LFlashTrust$Shelf;LFlashTrust$States;LFlashTrust$Signatures;)V" } : Jvm.MethodName)) ∈ lw_tbl := z_in2 224 rfl
theorem ln_2_227 : (Jvm.Cond.methodLink "FlashTrust$Update" (3 : Nat) ({ cls := "java/lang/Object", name := "<init>", desc := "()V" } : Jvm.MethodName)) ∈ lw_tbl := z_in2 227 rfl
theorem ln_2_228 : (Jvm.Cond.classLink "FlashTrust$Update" (9 : Nat) "FlashTrust$Paper") ∈ lw_tbl := z_in2 228 rfl
theorem ln_2_230 : (Jvm.Cond.classLink "FlashTrust$Update" (18 : Nat) "FlashTrust$Row") ∈ lw_tbl := z_in2 230 rfl
theorem ln_2_231 : (Jvm.Cond.methodLink "FlashTrust$Update" (20 : Nat) ({ cls := "FlashTrust$Row", name := "<init>", desc := "(I)V" } : Jvm.MethodName)) ∈ lw_tbl := z_in2 231 rfl
theorem ln_2_232 : (Jvm.Cond.fieldLink "FlashTrust$Update" (40 : Nat) "FlashTrust$Update" "flash" "LFlashTrust$Flash;") ∈ lw_tbl := z_in2 232 rfl
theorem ln_2_233 : (Jvm.Cond.fieldLink "FlashTrust$Update" (44 : Nat) "FlashTrust$Update" "shelves" "[LFlashTrust$Shelf;") ∈ lw_tbl := z_in2 233 rfl
theorem ln_2_234 : (Jvm.Cond.fieldLink "FlashTrust$Update" (48 : Nat) "FlashTrust$Update" "states" "LFlashTrust$States;") ∈ lw_tbl := z_in2 234 rfl
theorem ln_2_235 : (Jvm.Cond.fieldLink "FlashTrust$Update" (52 : Nat) "FlashTrust$Update" "signatures" "LFlashTrust$Signatures;") ∈ lw_tbl := z_in2 235 rfl
theorem ln_2_236 : (Jvm.Cond.fieldLink "FlashTrust$Update" (12 : Nat) "FlashTrust$Update" "came" "LFlashTrust$Paper;") ∈ lw_tbl := z_in2 236 rfl
theorem ln_2_237 : (Jvm.Cond.fieldLink "FlashTrust$Update" (23 : Nat) "FlashTrust$Update" "noDocument" "LFlashTrust$Row;") ∈ lw_tbl := z_in2 237 rfl
theorem ln_2_238 : (Jvm.Cond.fieldLink "FlashTrust$Update" (27 : Nat) "FlashTrust$Update" "awaited" "I") ∈ lw_tbl := z_in2 238 rfl
theorem ln_2_239 : (Jvm.Cond.fieldLink "FlashTrust" (143 : Nat) "FlashTrust$Update" "awaited" "I") ∈ lw_tbl := z_in2 239 rfl
theorem ln_3_0 : (Jvm.Cond.fieldLink "FlashTrust$Update" (31 : Nat) "FlashTrust$Update" "piece" "I") ∈ lw_tbl := z_in3 0 rfl
theorem ln_3_1 : (Jvm.Cond.fieldLink "FlashTrust" (168 : Nat) "FlashTrust$Update" "piece" "I") ∈ lw_tbl := z_in3 1 rfl
theorem ln_3_2 : (Jvm.Cond.fieldLink "FlashTrust$Update" (34 : Nat) "FlashTrust$Update" "clock" "I") ∈ lw_tbl := z_in3 2 rfl
theorem ln_3_3 : (Jvm.Cond.fieldLink "FlashTrust" (207 : Nat) "FlashTrust$Update" "clock" "I") ∈ lw_tbl := z_in3 3 rfl
theorem ln_3_4 : (Jvm.Cond.fieldLink "FlashTrust$Update" (37 : Nat) "FlashTrust$Update" "error" "I") ∈ lw_tbl := z_in3 4 rfl
theorem ln_3_5 : (Jvm.Cond.fieldLink "FlashTrust" (204 : Nat) "FlashTrust$Update" "error" "I") ∈ lw_tbl := z_in3 5 rfl
theorem ln_3_27 : (Jvm.Cond.fieldLink "FlashTrust" (14 : Nat) "FlashTrust" "tape" "LFlashTrust$Row;") ∈ lw_tbl := z_in3 27 rfl
theorem ln_3_28 : (Jvm.Cond.fieldLink "FlashTrust" (41 : Nat) "FlashTrust" "maker" "LFlashTrust$Maker;") ∈ lw_tbl := z_in3 28 rfl
theorem ln_3_29 : (Jvm.Cond.fieldLink "FlashTrust" (48 : Nat) "FlashTrust" "flash" "LFlashTrust$Flash;") ∈ lw_tbl := z_in3 29 rfl
theorem ln_3_30 : (Jvm.Cond.fieldLink "FlashTrust" (20 : Nat) "FlashTrust" "shelves" "[LFlashTrust$Shelf;") ∈ lw_tbl := z_in3 30 rfl
theorem ln_3_31 : (Jvm.Cond.fieldLink "FlashTrust" (58 : Nat) "FlashTrust" "states" "LFlashTrust$States;") ∈ lw_tbl := z_in3 31 rfl
theorem ln_3_32 : (Jvm.Cond.fieldLink "FlashTrust" (70 : Nat) "FlashTrust" "loader" "LFlashTrust$Loader;") ∈ lw_tbl := z_in3 32 rfl
theorem ln_3_33 : (Jvm.Cond.fieldLink "FlashTrust" (79 : Nat) "FlashTrust" "update" "LFlashTrust$Update;") ∈ lw_tbl := z_in3 33 rfl
theorem ln_3_49 : (Jvm.Cond.methodLink "FlashTrustLaw" (21 : Nat) ({ cls := "FlashTrust", name := "feed", desc := "(IIIII)I" } : Jvm.MethodName)) ∈ lw_tbl := z_in3 49 rfl
theorem ln_3_53 : (Jvm.Cond.methodLink "FlashTrust" (83 : Nat) ({ cls := "FlashTrust$Row", name := "size", desc := "()I" } : Jvm.MethodName)) ∈ lw_tbl := z_in3 53 rfl
theorem ln_3_57 : (Jvm.Cond.methodLink "FlashTrust" (87 : Nat) ({ cls := "FlashTrust$Row", name := "addNumber", desc := "(JI)V" } : Jvm.MethodName)) ∈ lw_tbl := z_in3 57 rfl
theorem ln_3_58 : (Jvm.Cond.methodLink "FlashTrustLaw" (26 : Nat) ({ cls := "FlashTrust", name := "end", desc := "(I)I" } : Jvm.MethodName)) ∈ lw_tbl := z_in3 58 rfl
theorem ln_3_62 : (Jvm.Cond.methodLink "FlashTrust" (91 : Nat) ({ cls := "FlashTrust$Row", name := "shorten", desc := "(I)V" } : Jvm.MethodName)) ∈ lw_tbl := z_in3 62 rfl
theorem ln_3_66 : (Jvm.Cond.methodLink "FlashTrustLaw" (31 : Nat) ({ cls := "FlashTrust", name := "byteOf", desc := "(I)I" } : Jvm.MethodName)) ∈ lw_tbl := z_in3 66 rfl
theorem ln_3_70 : (Jvm.Cond.methodLink "FlashTrust" (94 : Nat) ({ cls := "FlashTrust$Row", name := "has", desc := "(I)Z" } : Jvm.MethodName)) ∈ lw_tbl := z_in3 70 rfl
theorem ln_3_74 : (Jvm.Cond.methodLink "FlashTrust" (98 : Nat) ({ cls := "FlashTrust$Row", name := "at", desc := "(I)I" } : Jvm.MethodName)) ∈ lw_tbl := z_in3 74 rfl
theorem ln_3_75 : (Jvm.Cond.methodLink "FlashTrustLaw" (35 : Nat) ({ cls := "FlashTrust", name := "plan", desc := "(III)I" } : Jvm.MethodName)) ∈ lw_tbl := z_in3 75 rfl
theorem ln_3_79 : (Jvm.Cond.methodLink "FlashTrust" (102 : Nat) ({ cls := "FlashTrust$Maker", name := "planRole", desc := "(III)I" } : Jvm.MethodName)) ∈ lw_tbl := z_in3 79 rfl
theorem ln_3_83 : (Jvm.Cond.methodLink "FlashTrust$Maker" (74 : Nat) ({ cls := "java/lang/Integer", name := "bitCount", desc := "(I)I" } : Jvm.MethodName)) ∈ lw_tbl := z_in3 83 rfl
theorem ln_3_86 : (Jvm.Cond.constant "java/lang/Integer" (265 : Nat) (1431655765 : Int32)) ∈ lw_tbl := z_in3 86 rfl
theorem ln_3_87 : (Jvm.Cond.constant "java/lang/Integer" (266 : Nat) (858993459 : Int32)) ∈ lw_tbl := z_in3 87 rfl
theorem ln_3_88 : (Jvm.Cond.constant "java/lang/Integer" (267 : Nat) (252645135 : Int32)) ∈ lw_tbl := z_in3 88 rfl
theorem ln_3_89 : (Jvm.Cond.constant "FlashTrust$Maker" (80 : Nat) (65536 : Int32)) ∈ lw_tbl := z_in3 89 rfl
theorem ln_3_90 : (Jvm.Cond.methodLink "FlashTrustLaw" (40 : Nat) ({ cls := "FlashTrust", name := "image", desc := "(III)I" } : Jvm.MethodName)) ∈ lw_tbl := z_in3 90 rfl
theorem ln_3_94 : (Jvm.Cond.methodLink "FlashTrust" (106 : Nat) ({ cls := "FlashTrust$Maker", name := "addImage", desc := "(III)I" } : Jvm.MethodName)) ∈ lw_tbl := z_in3 94 rfl
theorem ln_3_98 : (Jvm.Cond.constant "FlashTrust$Maker" (81 : Nat) (65535 : Int32)) ∈ lw_tbl := z_in3 98 rfl
theorem ln_3_99 : (Jvm.Cond.methodLink "FlashTrust$Maker" (82 : Nat) ({ cls := "FlashTrust$Row", name := "empty", desc := "()V" } : Jvm.MethodName)) ∈ lw_tbl := z_in3 99 rfl
theorem ln_3_100 : (Jvm.Cond.methodLink "FlashTrust$Maker" (85 : Nat) ({ cls := "FlashTrust$Maker", name := "addProgram", desc := "(LFlashTrust$Row;III)V" } : Jvm.MethodName)) ∈ lw_tbl := z_in3 100 rfl
theorem ln_3_104 : (Jvm.Cond.methodLink "FlashTrust$Maker" (93 : Nat) ({ cls := "FlashTrust$Row", name := "add", desc := "(I)V" } : Jvm.MethodName)) ∈ lw_tbl := z_in3 104 rfl
theorem ln_3_105 : (Jvm.Cond.methodLink "FlashTrust$Maker" (89 : Nat) ({ cls := "FlashTrust$Row", name := "hash", desc := "(II)J" } : Jvm.MethodName)) ∈ lw_tbl := z_in3 105 rfl
theorem ln_3_106 : (Jvm.Cond.methodLink "FlashTrustLaw" (44 : Nat) ({ cls := "FlashTrust", name := "clear", desc := "()I" } : Jvm.MethodName)) ∈ lw_tbl := z_in3 106 rfl
theorem ln_3_110 : (Jvm.Cond.methodLink "FlashTrust" (109 : Nat) ({ cls := "FlashTrust$Maker", name := "dropImages", desc := "()I" } : Jvm.MethodName)) ∈ lw_tbl := z_in3 110 rfl
theorem ln_3_114 : (Jvm.Cond.methodLink "FlashTrustLaw" (49 : Nat) ({ cls := "FlashTrust", name := "draft", desc := "(III)I" } : Jvm.MethodName)) ∈ lw_tbl := z_in3 114 rfl
theorem ln_3_118 : (Jvm.Cond.methodLink "FlashTrust" (112 : Nat) ({ cls := "FlashTrust$Maker", name := "compose", desc := "(III)I" } : Jvm.MethodName)) ∈ lw_tbl := z_in3 118 rfl
theorem ln_3_122 : (Jvm.Cond.methodLink "FlashTrust$Maker" (96 : Nat) ({ cls := "FlashTrust$Row", name := "addNumber", desc := "(JI)V" } : Jvm.MethodName)) ∈ lw_tbl := z_in3 122 rfl
theorem ln_3_123 : (Jvm.Cond.methodLink "FlashTrust$Maker" (100 : Nat) ({ cls := "FlashTrust$Maker", name := "addRoles", desc := "()V" } : Jvm.MethodName)) ∈ lw_tbl := z_in3 123 rfl
theorem ln_3_127 : (Jvm.Cond.methodLink "FlashTrust$Maker" (110 : Nat) ({ cls := "FlashTrust$Row", name := "addKeys", desc := "(I)V" } : Jvm.MethodName)) ∈ lw_tbl := z_in3 127 rfl
theorem ln_3_131 : (Jvm.Cond.methodLink "FlashTrust$Row" (35 : Nat) ({ cls := "java/lang/Integer", name := "bitCount", desc := "(I)I" } : Jvm.MethodName)) ∈ lw_tbl := z_in3 131 rfl
theorem ln_3_132 : (Jvm.Cond.methodLink "FlashTrust$Maker" (103 : Nat) ({ cls := "FlashTrust$Maker", name := "addImages", desc := "()V" } : Jvm.MethodName)) ∈ lw_tbl := z_in3 132 rfl
theorem ln_3_136 : (Jvm.Cond.methodLink "FlashTrust$Maker" (106 : Nat) ({ cls := "FlashTrust$Row", name := "size", desc := "()I" } : Jvm.MethodName)) ∈ lw_tbl := z_in3 136 rfl
theorem ln_3_137 : (Jvm.Cond.methodLink "FlashTrustLaw" (53 : Nat) ({ cls := "FlashTrust", name := "sign", desc := "(I)I" } : Jvm.MethodName)) ∈ lw_tbl := z_in3 137 rfl
theorem ln_3_141 : (Jvm.Cond.methodLink "FlashTrust" (115 : Nat) ({ cls := "FlashTrust$Maker", name := "addKey", desc := "(I)I" } : Jvm.MethodName)) ∈ lw_tbl := z_in3 141 rfl
theorem ln_3_145 : (Jvm.Cond.methodLink "FlashTrust$Maker" (113 : Nat) ({ cls := "FlashTrust$Signatures", name := "add", desc := "(IJ)Z" } : Jvm.MethodName)) ∈ lw_tbl := z_in3 145 rfl
theorem ln_3_149 : (Jvm.Cond.methodLink "FlashTrust$Signatures" (21 : Nat) ({ cls := "FlashTrust$Signatures", name := "has", desc := "(IJ)Z" } : Jvm.MethodName)) ∈ lw_tbl := z_in3 149 rfl
theorem ln_3_153 : (Jvm.Cond.methodLink "FlashTrustLaw" (57 : Nat) ({ cls := "FlashTrust", name := "show", desc := "()I" } : Jvm.MethodName)) ∈ lw_tbl := z_in3 153 rfl
theorem ln_3_157 : (Jvm.Cond.methodLink "FlashTrust" (118 : Nat) ({ cls := "FlashTrust$Maker", name := "copyDraft", desc := "(LFlashTrust$Row;)I" } : Jvm.MethodName)) ∈ lw_tbl := z_in3 157 rfl
theorem ln_3_161 : (Jvm.Cond.methodLink "FlashTrust$Maker" (118 : Nat) ({ cls := "FlashTrust$Row", name := "addFrom", desc := "(LFlashTrust$Row;II)V" } : Jvm.MethodName)) ∈ lw_tbl := z_in3 161 rfl
theorem ln_3_165 : (Jvm.Cond.methodLink "FlashTrust$Row" (29 : Nat) ({ cls := "FlashTrust$Row", name := "at", desc := "(I)I" } : Jvm.MethodName)) ∈ lw_tbl := z_in3 165 rfl
theorem ln_3_166 : (Jvm.Cond.methodLink "FlashTrustLaw" (61 : Nat) ({ cls := "FlashTrust", name := "piece", desc := "(II)I" } : Jvm.MethodName)) ∈ lw_tbl := z_in3 166 rfl
theorem ln_3_170 : (Jvm.Cond.methodLink "FlashTrust" (122 : Nat) ({ cls := "FlashTrust$Maker", name := "copyPiece", desc := "(IILFlashTrust$Row;)I" } : Jvm.MethodName)) ∈ lw_tbl := z_in3 170 rfl
theorem ln_3_174 : (Jvm.Cond.methodLink "FlashTrust$Maker" (122 : Nat) ({ cls := "java/lang/Math", name := "min", desc := "(II)I" } : Jvm.MethodName)) ∈ lw_tbl := z_in3 174 rfl
theorem ln_3_175 : (Jvm.Cond.methodLink "FlashTrustLaw" (66 : Nat) ({ cls := "FlashTrust", name := "spoil", desc := "(II)I" } : Jvm.MethodName)) ∈ lw_tbl := z_in3 175 rfl
theorem ln_3_179 : (Jvm.Cond.methodLink "FlashTrust" (126 : Nat) ({ cls := "FlashTrust$Row", name := "set", desc := "(II)V" } : Jvm.MethodName)) ∈ lw_tbl := z_in3 179 rfl
theorem ln_3_180 : (Jvm.Cond.methodLink "FlashTrustLaw" (70 : Nat) ({ cls := "FlashTrust", name := "begin", desc := "(I)I" } : Jvm.MethodName)) ∈ lw_tbl := z_in3 180 rfl
theorem ln_3_184 : (Jvm.Cond.methodLink "FlashTrust" (130 : Nat) ({ cls := "FlashTrust$Flash", name := "isDown", desc := "()Z" } : Jvm.MethodName)) ∈ lw_tbl := z_in3 184 rfl
theorem ln_3_188 : (Jvm.Cond.methodLink "FlashTrust" (134 : Nat) ({ cls := "FlashTrust$Update", name := "goesOn", desc := "()Z" } : Jvm.MethodName)) ∈ lw_tbl := z_in3 188 rfl
theorem ln_3_192 : (Jvm.Cond.methodLink "FlashTrust" (137 : Nat) ({ cls := "FlashTrust$Loader", name := "isSettled", desc := "()Z" } : Jvm.MethodName)) ∈ lw_tbl := z_in3 192 rfl
theorem ln_3_196 : (Jvm.Cond.methodLink "FlashTrust" (140 : Nat) ({ cls := "FlashTrust$Update", name := "start", desc := "(I)I" } : Jvm.MethodName)) ∈ lw_tbl := z_in3 196 rfl
theorem ln_3_200 : (Jvm.Cond.methodLink "FlashTrustLaw" (74 : Nat) ({ cls := "FlashTrust", name := "answer", desc := "()I" } : Jvm.MethodName)) ∈ lw_tbl := z_in3 200 rfl
theorem ln_3_204 : (Jvm.Cond.methodLink "FlashTrust" (147 : Nat) ({ cls := "FlashTrust$Update", name := "takeRoot", desc := "(LFlashTrust$Row;)I" } : Jvm.MethodName)) ∈ lw_tbl := z_in3 204 rfl
theorem ln_3_208 : (Jvm.Cond.methodLink "FlashTrust$Update" (65 : Nat) ({ cls := "FlashTrust$Update", name := "trustedPaper", desc := "(I)LFlashTrust$Paper;" } : Jvm.MethodName)) ∈ lw_tbl := z_in3 208 rfl
theorem ln_3_212 : (Jvm.Cond.methodLink "FlashTrust$Update" (59 : Nat) ({ cls := "FlashTrust$Shelf", name := "paper", desc := "()LFlashTrust$Paper;" } : Jvm.MethodName)) ∈ lw_tbl := z_in3 212 rfl
theorem ln_3_216 : (Jvm.Cond.methodLink "FlashTrust$Shelf" (64 : Nat) ({ cls := "FlashTrust$Shelf", name := "number", desc := "()I" } : Jvm.MethodName)) ∈ lw_tbl := z_in3 216 rfl
theorem ln_3_220 : (Jvm.Cond.methodLink "FlashTrust$Shelf" (58 : Nat) ({ cls := "java/lang/Math", name := "max", desc := "(II)I" } : Jvm.MethodName)) ∈ lw_tbl := z_in3 220 rfl
theorem ln_3_221 : (Jvm.Cond.methodLink "FlashTrust$Shelf" (67 : Nat) ({ cls := "FlashTrust$Shelf", name := "counting", desc := "()LFlashTrust$Entry;" } : Jvm.MethodName)) ∈ lw_tbl := z_in3 221 rfl
theorem ln_3_225 : (Jvm.Cond.methodLink "FlashTrust$Shelf" (54 : Nat) ({ cls := "FlashTrust$Shelf", name := "secondCounts", desc := "()Z" } : Jvm.MethodName)) ∈ lw_tbl := z_in3 225 rfl
theorem ln_3_229 : (Jvm.Cond.methodLink "FlashTrust$Update" (88 : Nat) ({ cls := "FlashTrust$Row", name := "size", desc := "()I" } : Jvm.MethodName)) ∈ lw_tbl := z_in3 229 rfl
theorem ln_3_230 : (Jvm.Cond.methodLink "FlashTrust$Update" (92 : Nat) ({ cls := "FlashTrust$Paper", name := "read", desc := "(LFlashTrust$Row;II)Z" } : Jvm.MethodName)) ∈ lw_tbl := z_in3 230 rfl
theorem ln_3_234 : (Jvm.Cond.methodLink "FlashTrust$Paper" (59 : Nat) ({ cls := "FlashTrust$Row", name := "empty", desc := "()V" } : Jvm.MethodName)) ∈ lw_tbl := z_in3 234 rfl
theorem ln_3_235 : (Jvm.Cond.methodLink "FlashTrust$Paper" (62 : Nat) ({ cls := "FlashTrust$Row", name := "addFrom", desc := "(LFlashTrust$Row;II)V" } : Jvm.MethodName)) ∈ lw_tbl := z_in3 235 rfl
theorem ln_3_236 : (Jvm.Cond.methodLink "FlashTrust$Paper" (66 : Nat) ({ cls := "FlashTrust$Row", name := "at", desc := "(I)I" } : Jvm.MethodName)) ∈ lw_tbl := z_in3 236 rfl
theorem ln_3_237 : (Jvm.Cond.methodLink "FlashTrust$Paper" (70 : Nat) ({ cls := "FlashTrust$Row", name := "number", desc := "(II)J" } : Jvm.MethodName)) ∈ lw_tbl := z_in3 237 rfl
theorem ln_3_238 : (Jvm.Cond.methodLink "FlashTrust$Paper" (77 : Nat) ({ cls := "FlashTrust$Paper", name := "readHead", desc := "()Z" } : Jvm.MethodName)) ∈ lw_tbl := z_in3 238 rfl
theorem ln_4_2 : (Jvm.Cond.methodLink "FlashTrust$Paper" (99 : Nat) ({ cls := "FlashTrust$Row", name := "size", desc := "()I" } : Jvm.MethodName)) ∈ lw_tbl := z_in4 2 rfl
theorem ln_4_3 : (Jvm.Cond.methodLink "FlashTrust$Paper" (81 : Nat) ({ cls := "FlashTrust$Paper", name := "readKeys", desc := "()Z" } : Jvm.MethodName)) ∈ lw_tbl := z_in4 3 rfl
theorem ln_4_7 : (Jvm.Cond.methodLink "FlashTrust$Paper" (103 : Nat) ({ cls := "FlashTrust$Row", name := "keyBits", desc := "(II)I" } : Jvm.MethodName)) ∈ lw_tbl := z_in4 7 rfl
theorem ln_4_11 : (Jvm.Cond.methodLink "FlashTrust$Paper" (84 : Nat) ({ cls := "FlashTrust$Row", name := "hash", desc := "(II)J" } : Jvm.MethodName)) ∈ lw_tbl := z_in4 11 rfl
theorem ln_4_12 : (Jvm.Cond.methodLink "FlashTrust$Paper" (90 : Nat) ({ cls := "FlashTrust$Paper", name := "readRoot", desc := "()Z" } : Jvm.MethodName)) ∈ lw_tbl := z_in4 12 rfl
theorem ln_4_16 : (Jvm.Cond.methodLink "FlashTrust$Paper" (93 : Nat) ({ cls := "FlashTrust$Paper", name := "readTold", desc := "()Z" } : Jvm.MethodName)) ∈ lw_tbl := z_in4 16 rfl
theorem ln_4_20 : (Jvm.Cond.methodLink "FlashTrust$Paper" (96 : Nat) ({ cls := "FlashTrust$Paper", name := "readImages", desc := "()Z" } : Jvm.MethodName)) ∈ lw_tbl := z_in4 20 rfl
theorem ln_4_24 : (Jvm.Cond.methodLink "FlashTrust$Update" (80 : Nat) ({ cls := "FlashTrust$Update", name := "fail", desc := "(I)I" } : Jvm.MethodName)) ∈ lw_tbl := z_in4 24 rfl
theorem ln_4_28 : (Jvm.Cond.methodLink "FlashTrust$Update" (56 : Nat) ({ cls := "FlashTrust$Update", name := "giveUp", desc := "()V" } : Jvm.MethodName)) ∈ lw_tbl := z_in4 28 rfl
theorem ln_4_32 : (Jvm.Cond.methodLink "FlashTrust$Update" (99 : Nat) ({ cls := "FlashTrust$Update", name := "hasRole", desc := "(LFlashTrust$Paper;LFlashTrust$Paper;I)Z" } : Jvm.MethodName)) ∈ lw_tbl := z_in4 32 rfl
theorem ln_4_36 : (Jvm.Cond.methodLink "FlashTrust$Update" (128 : Nat) ({ cls := "FlashTrust$Signatures", name := "has", desc := "(IJ)Z" } : Jvm.MethodName)) ∈ lw_tbl := z_in4 36 rfl
theorem ln_4_37 : (Jvm.Cond.methodLink "FlashTrust$Update" (103 : Nat) ({ cls := "FlashTrust$Paper", name := "givesLike", desc := "(LFlashTrust$Paper;I)Z" } : Jvm.MethodName)) ∈ lw_tbl := z_in4 37 rfl
theorem ln_4_41 : (Jvm.Cond.methodLink "FlashTrust$Update" (107 : Nat) ({ cls := "FlashTrust$Shelf", name := "holds", desc := "()Z" } : Jvm.MethodName)) ∈ lw_tbl := z_in4 41 rfl
theorem ln_4_45 : (Jvm.Cond.methodLink "FlashTrust$Update" (111 : Nat) ({ cls := "FlashTrust$Shelf", name := "keep", desc := "(LFlashTrust$Row;)V" } : Jvm.MethodName)) ∈ lw_tbl := z_in4 45 rfl
theorem ln_4_49 : (Jvm.Cond.methodLink "FlashTrust$Shelf" (86 : Nat) ({ cls := "FlashTrust$Row", name := "empty", desc := "()V" } : Jvm.MethodName)) ∈ lw_tbl := z_in4 49 rfl
theorem ln_4_50 : (Jvm.Cond.methodLink "FlashTrust$Shelf" (89 : Nat) ({ cls := "FlashTrust$Row", name := "addNumber", desc := "(JI)V" } : Jvm.MethodName)) ∈ lw_tbl := z_in4 50 rfl
theorem ln_4_51 : (Jvm.Cond.methodLink "FlashTrust$Shelf" (93 : Nat) ({ cls := "FlashTrust$Row", name := "size", desc := "()I" } : Jvm.MethodName)) ∈ lw_tbl := z_in4 51 rfl
theorem ln_4_52 : (Jvm.Cond.methodLink "FlashTrust$Shelf" (96 : Nat) ({ cls := "FlashTrust$Row", name := "addFrom", desc := "(LFlashTrust$Row;II)V" } : Jvm.MethodName)) ∈ lw_tbl := z_in4 52 rfl
theorem ln_4_53 : (Jvm.Cond.methodLink "FlashTrust$Shelf" (100 : Nat) ({ cls := "FlashTrust$Row", name := "hash", desc := "(II)J" } : Jvm.MethodName)) ∈ lw_tbl := z_in4 53 rfl
theorem ln_4_54 : (Jvm.Cond.methodLink "FlashTrust$Shelf" (104 : Nat) ({ cls := "FlashTrust$Row", name := "checkOf", desc := "(J)J" } : Jvm.MethodName)) ∈ lw_tbl := z_in4 54 rfl
theorem ln_4_55 : (Jvm.Cond.methodLink "FlashTrust$Shelf" (111 : Nat) ({ cls := "FlashTrust$Flash", name := "erase", desc := "(I)V" } : Jvm.MethodName)) ∈ lw_tbl := z_in4 55 rfl
theorem ln_4_59 : (Jvm.Cond.methodLink "FlashTrust$Flash" (48 : Nat) ({ cls := "FlashTrust$Flash", name := "powerHolds", desc := "()Z" } : Jvm.MethodName)) ∈ lw_tbl := z_in4 59 rfl
theorem ln_4_63 : (Jvm.Cond.methodLink "FlashTrust$Shelf" (116 : Nat) ({ cls := "FlashTrust$Flash", name := "writeAll", desc := "(ILFlashTrust$Row;)V" } : Jvm.MethodName)) ∈ lw_tbl := z_in4 63 rfl
theorem ln_4_67 : (Jvm.Cond.methodLink "FlashTrust$Flash" (59 : Nat) ({ cls := "FlashTrust$Row", name := "size", desc := "()I" } : Jvm.MethodName)) ∈ lw_tbl := z_in4 67 rfl
theorem ln_4_68 : (Jvm.Cond.methodLink "FlashTrust$Flash" (63 : Nat) ({ cls := "FlashTrust$Flash", name := "write", desc := "(ILFlashTrust$Row;I)V" } : Jvm.MethodName)) ∈ lw_tbl := z_in4 68 rfl
theorem ln_4_72 : (Jvm.Cond.methodLink "FlashTrust$Flash" (52 : Nat) ({ cls := "FlashTrust$Flash", name := "burn", desc := "(ILFlashTrust$Row;I)V" } : Jvm.MethodName)) ∈ lw_tbl := z_in4 72 rfl
theorem ln_4_73 : (Jvm.Cond.methodLink "FlashTrust$Shelf" (120 : Nat) ({ cls := "FlashTrust$Entry", name := "look", desc := "()V" } : Jvm.MethodName)) ∈ lw_tbl := z_in4 73 rfl
theorem ln_4_77 : (Jvm.Cond.methodLink "FlashTrust$Entry" (42 : Nat) ({ cls := "FlashTrust$Row", name := "number", desc := "(II)J" } : Jvm.MethodName)) ∈ lw_tbl := z_in4 77 rfl
theorem ln_4_78 : (Jvm.Cond.constantLong "FlashTrust$Entry" (47 : Nat) (2147483647 : Int64)) ∈ lw_tbl := z_in4 78 rfl
theorem ln_4_79 : (Jvm.Cond.methodLink "FlashTrust$Entry" (49 : Nat) ({ cls := "FlashTrust$Row", name := "hash", desc := "(II)J" } : Jvm.MethodName)) ∈ lw_tbl := z_in4 79 rfl
theorem ln_4_80 : (Jvm.Cond.methodLink "FlashTrust$Entry" (52 : Nat) ({ cls := "FlashTrust$Row", name := "checkOf", desc := "(J)J" } : Jvm.MethodName)) ∈ lw_tbl := z_in4 80 rfl
theorem ln_4_81 : (Jvm.Cond.methodLink "FlashTrust$Entry" (56 : Nat) ({ cls := "FlashTrust$Paper", name := "read", desc := "(LFlashTrust$Row;II)Z" } : Jvm.MethodName)) ∈ lw_tbl := z_in4 81 rfl
theorem ln_4_82 : (Jvm.Cond.methodLink "FlashTrust" (150 : Nat) ({ cls := "FlashTrust$Update", name := "takePiece", desc := "(LFlashTrust$Row;)I" } : Jvm.MethodName)) ∈ lw_tbl := z_in4 82 rfl
theorem ln_4_86 : (Jvm.Cond.methodLink "FlashTrust$Update" (205 : Nat) ({ cls := "java/lang/Math", name := "min", desc := "(II)I" } : Jvm.MethodName)) ∈ lw_tbl := z_in4 86 rfl
theorem ln_4_87 : (Jvm.Cond.methodLink "FlashTrust$Update" (185 : Nat) ({ cls := "FlashTrust$States", name := "otherSlot", desc := "()I" } : Jvm.MethodName)) ∈ lw_tbl := z_in4 87 rfl
theorem ln_4_91 : (Jvm.Cond.methodLink "FlashTrust$Update" (210 : Nat) ({ cls := "FlashTrust$Flash", name := "slotStart", desc := "(I)I" } : Jvm.MethodName)) ∈ lw_tbl := z_in4 91 rfl
theorem ln_4_92 : (Jvm.Cond.methodLink "FlashTrust$Update" (213 : Nat) ({ cls := "FlashTrust$Flash", name := "writeAll", desc := "(ILFlashTrust$Row;)V" } : Jvm.MethodName)) ∈ lw_tbl := z_in4 92 rfl
theorem ln_4_93 : (Jvm.Cond.methodLink "FlashTrust$Update" (145 : Nat) ({ cls := "FlashTrust$Flash", name := "isDown", desc := "()Z" } : Jvm.MethodName)) ∈ lw_tbl := z_in4 93 rfl
theorem ln_4_94 : (Jvm.Cond.methodLink "FlashTrust$Update" (217 : Nat) ({ cls := "FlashTrust$Update", name := "finishProgram", desc := "()I" } : Jvm.MethodName)) ∈ lw_tbl := z_in4 94 rfl
theorem ln_4_98 : (Jvm.Cond.methodLink "FlashTrust$Update" (220 : Nat) ({ cls := "FlashTrust$Flash", name := "programHash", desc := "(II)J" } : Jvm.MethodName)) ∈ lw_tbl := z_in4 98 rfl
theorem ln_4_99 : (Jvm.Cond.methodLink "FlashTrust$Update" (227 : Nat) ({ cls := "FlashTrust$States", name := "stageNothing", desc := "()V" } : Jvm.MethodName)) ∈ lw_tbl := z_in4 99 rfl
theorem ln_4_103 : (Jvm.Cond.methodLink "FlashTrust$Update" (199 : Nat) ({ cls := "FlashTrust$States", name := "store", desc := "()V" } : Jvm.MethodName)) ∈ lw_tbl := z_in4 103 rfl
theorem ln_4_107 : (Jvm.Cond.methodLink "FlashTrust$States" (92 : Nat) ({ cls := "FlashTrust$States", name := "nextBlank", desc := "(I)I" } : Jvm.MethodName)) ∈ lw_tbl := z_in4 107 rfl
theorem ln_4_111 : (Jvm.Cond.methodLink "FlashTrust$States" (102 : Nat) ({ cls := "FlashTrust$Flash", name := "isBlank", desc := "(I)Z" } : Jvm.MethodName)) ∈ lw_tbl := z_in4 111 rfl
theorem ln_4_115 : (Jvm.Cond.methodLink "FlashTrust$States" (96 : Nat) ({ cls := "FlashTrust$Flash", name := "erase", desc := "(I)V" } : Jvm.MethodName)) ∈ lw_tbl := z_in4 115 rfl
theorem ln_4_116 : (Jvm.Cond.methodLink "FlashTrust$States" (99 : Nat) ({ cls := "FlashTrust$Flash", name := "write", desc := "(ILFlashTrust$Row;I)V" } : Jvm.MethodName)) ∈ lw_tbl := z_in4 116 rfl
theorem ln_4_117 : (Jvm.Cond.methodLink "FlashTrust" (153 : Nat) ({ cls := "FlashTrust$Update", name := "takePaper", desc := "(LFlashTrust$Row;)I" } : Jvm.MethodName)) ∈ lw_tbl := z_in4 117 rfl
theorem ln_4_121 : (Jvm.Cond.methodLink "FlashTrust$Update" (137 : Nat) ({ cls := "FlashTrust$Update", name := "judge", desc := "(LFlashTrust$Paper;I)I" } : Jvm.MethodName)) ∈ lw_tbl := z_in4 121 rfl
theorem ln_4_125 : (Jvm.Cond.methodLink "FlashTrust$Update" (141 : Nat) ({ cls := "FlashTrust$Shelf", name := "holdsBodyOf", desc := "(LFlashTrust$Paper;)Z" } : Jvm.MethodName)) ∈ lw_tbl := z_in4 125 rfl
theorem ln_4_129 : (Jvm.Cond.methodLink "FlashTrust$Shelf" (77 : Nat) ({ cls := "FlashTrust$Shelf", name := "holds", desc := "()Z" } : Jvm.MethodName)) ∈ lw_tbl := z_in4 129 rfl
theorem ln_4_130 : (Jvm.Cond.methodLink "FlashTrust$Shelf" (79 : Nat) ({ cls := "FlashTrust$Shelf", name := "paper", desc := "()LFlashTrust$Paper;" } : Jvm.MethodName)) ∈ lw_tbl := z_in4 130 rfl
theorem ln_4_131 : (Jvm.Cond.methodLink "FlashTrust$Shelf" (82 : Nat) ({ cls := "FlashTrust$Paper", name := "hasBodyOf", desc := "(LFlashTrust$Paper;)Z" } : Jvm.MethodName)) ∈ lw_tbl := z_in4 131 rfl
theorem ln_4_135 : (Jvm.Cond.methodLink "FlashTrust$Update" (150 : Nat) ({ cls := "FlashTrust$Update", name := "isTrustedAsTold", desc := "(I)Z" } : Jvm.MethodName)) ∈ lw_tbl := z_in4 135 rfl
theorem ln_4_139 : (Jvm.Cond.methodLink "FlashTrust$Update" (154 : Nat) ({ cls := "FlashTrust$Update", name := "chooseImage", desc := "()I" } : Jvm.MethodName)) ∈ lw_tbl := z_in4 139 rfl
theorem ln_4_143 : (Jvm.Cond.methodLink "FlashTrust$Update" (174 : Nat) ({ cls := "FlashTrust$Flash", name := "lowest", desc := "(J)J" } : Jvm.MethodName)) ∈ lw_tbl := z_in4 143 rfl
theorem ln_4_144 : (Jvm.Cond.methodLink "FlashTrust$Update" (178 : Nat) ({ cls := "FlashTrust$States", name := "stages", desc := "(IIJ)Z" } : Jvm.MethodName)) ∈ lw_tbl := z_in4 144 rfl
theorem ln_4_148 : (Jvm.Cond.methodLink "FlashTrust$Update" (188 : Nat) ({ cls := "FlashTrust$Flash", name := "lastWrittenPiece", desc := "(II)I" } : Jvm.MethodName)) ∈ lw_tbl := z_in4 148 rfl
theorem ln_4_152 : (Jvm.Cond.methodLink "FlashTrust$Update" (192 : Nat) ({ cls := "FlashTrust$Flash", name := "eraseSlot", desc := "(I)V" } : Jvm.MethodName)) ∈ lw_tbl := z_in4 152 rfl
theorem ln_4_156 : (Jvm.Cond.methodLink "FlashTrust$Flash" (66 : Nat) ({ cls := "FlashTrust$Flash", name := "erase", desc := "(I)V" } : Jvm.MethodName)) ∈ lw_tbl := z_in4 156 rfl
theorem ln_4_157 : (Jvm.Cond.methodLink "FlashTrust$Update" (195 : Nat) ({ cls := "FlashTrust$States", name := "stage", desc := "(IIIJ)V" } : Jvm.MethodName)) ∈ lw_tbl := z_in4 157 rfl
theorem ln_4_158 : (Jvm.Cond.methodLink "FlashTrust" (156 : Nat) ({ cls := "FlashTrust$Row", name := "empty", desc := "()V" } : Jvm.MethodName)) ∈ lw_tbl := z_in4 158 rfl
theorem ln_4_159 : (Jvm.Cond.methodLink "FlashTrust" (159 : Nat) ({ cls := "FlashTrust", name := "unlessDown", desc := "(I)I" } : Jvm.MethodName)) ∈ lw_tbl := z_in4 159 rfl
theorem ln_4_163 : (Jvm.Cond.methodLink "FlashTrust" (171 : Nat) ({ cls := "FlashTrust$Update", name := "giveUp", desc := "()V" } : Jvm.MethodName)) ∈ lw_tbl := z_in4 163 rfl
theorem ln_4_164 : (Jvm.Cond.methodLink "FlashTrust" (234 : Nat) ({ cls := "FlashTrust$Loader", name := "halt", desc := "()V" } : Jvm.MethodName)) ∈ lw_tbl := z_in4 164 rfl
theorem ln_4_168 : (Jvm.Cond.methodLink "FlashTrustLaw" (78 : Nat) ({ cls := "FlashTrust", name := "refuse", desc := "()I" } : Jvm.MethodName)) ∈ lw_tbl := z_in4 168 rfl
theorem ln_4_172 : (Jvm.Cond.methodLink "FlashTrust" (162 : Nat) ({ cls := "FlashTrust$Update", name := "takeRefusal", desc := "()I" } : Jvm.MethodName)) ∈ lw_tbl := z_in4 172 rfl
theorem ln_4_176 : (Jvm.Cond.methodLink "FlashTrustLaw" (82 : Nat) ({ cls := "FlashTrust", name := "awaits", desc := "(I)I" } : Jvm.MethodName)) ∈ lw_tbl := z_in4 176 rfl
theorem ln_4_180 : (Jvm.Cond.methodLink "FlashTrust" (165 : Nat) ({ cls := "FlashTrust$Update", name := "wantedVersion", desc := "()I" } : Jvm.MethodName)) ∈ lw_tbl := z_in4 180 rfl
theorem ln_4_184 : (Jvm.Cond.methodLink "FlashTrustLaw" (86 : Nat) ({ cls := "FlashTrust", name := "stop", desc := "()I" } : Jvm.MethodName)) ∈ lw_tbl := z_in4 184 rfl
theorem ln_4_188 : (Jvm.Cond.methodLink "FlashTrustLaw" (90 : Nat) ({ cls := "FlashTrust", name := "power", desc := "(II)I" } : Jvm.MethodName)) ∈ lw_tbl := z_in4 188 rfl
theorem ln_4_192 : (Jvm.Cond.methodLink "FlashTrust" (174 : Nat) ({ cls := "FlashTrust$Flash", name := "tellCut", desc := "(II)V" } : Jvm.MethodName)) ∈ lw_tbl := z_in4 192 rfl
theorem ln_4_196 : (Jvm.Cond.methodLink "FlashTrustLaw" (94 : Nat) ({ cls := "FlashTrust", name := "boot", desc := "()I" } : Jvm.MethodName)) ∈ lw_tbl := z_in4 196 rfl
theorem ln_4_200 : (Jvm.Cond.methodLink "FlashTrust" (177 : Nat) ({ cls := "FlashTrust$Flash", name := "switchOn", desc := "()V" } : Jvm.MethodName)) ∈ lw_tbl := z_in4 200 rfl
theorem ln_4_204 : (Jvm.Cond.methodLink "FlashTrust" (180 : Nat) ({ cls := "FlashTrust$Loader", name := "start", desc := "()I" } : Jvm.MethodName)) ∈ lw_tbl := z_in4 204 rfl
theorem ln_4_208 : (Jvm.Cond.methodLink "FlashTrust$Loader" (27 : Nat) ({ cls := "FlashTrust$Loader", name := "halt", desc := "()V" } : Jvm.MethodName)) ∈ lw_tbl := z_in4 208 rfl
theorem ln_4_209 : (Jvm.Cond.methodLink "FlashTrust$Loader" (35 : Nat) ({ cls := "FlashTrust$Loader", name := "startTrial", desc := "()I" } : Jvm.MethodName)) ∈ lw_tbl := z_in4 209 rfl
theorem ln_4_213 : (Jvm.Cond.methodLink "FlashTrust$Loader" (42 : Nat) ({ cls := "FlashTrust$States", name := "store", desc := "()V" } : Jvm.MethodName)) ∈ lw_tbl := z_in4 213 rfl
theorem ln_4_214 : (Jvm.Cond.methodLink "FlashTrust$Loader" (48 : Nat) ({ cls := "FlashTrust$Flash", name := "isDown", desc := "()Z" } : Jvm.MethodName)) ∈ lw_tbl := z_in4 214 rfl
theorem ln_4_215 : (Jvm.Cond.methodLink "FlashTrust$Loader" (54 : Nat) ({ cls := "FlashTrust$States", name := "otherSlot", desc := "()I" } : Jvm.MethodName)) ∈ lw_tbl := z_in4 215 rfl
theorem ln_4_216 : (Jvm.Cond.methodLink "FlashTrust$Loader" (60 : Nat) ({ cls := "FlashTrust$Flash", name := "programHash", desc := "(II)J" } : Jvm.MethodName)) ∈ lw_tbl := z_in4 216 rfl
theorem ln_4_217 : (Jvm.Cond.methodLink "FlashTrust$Loader" (39 : Nat) ({ cls := "FlashTrust$States", name := "stageNothing", desc := "()V" } : Jvm.MethodName)) ∈ lw_tbl := z_in4 217 rfl
theorem ln_4_218 : (Jvm.Cond.methodLink "FlashTrust$Loader" (45 : Nat) ({ cls := "FlashTrust$Loader", name := "startConfirmed", desc := "()I" } : Jvm.MethodName)) ∈ lw_tbl := z_in4 218 rfl
theorem ln_4_222 : (Jvm.Cond.methodLink "FlashTrustLaw" (98 : Nat) ({ cls := "FlashTrust", name := "test", desc := "(Z)I" } : Jvm.MethodName)) ∈ lw_tbl := z_in4 222 rfl
theorem ln_4_226 : (Jvm.Cond.methodLink "FlashTrust" (186 : Nat) ({ cls := "FlashTrust$Loader", name := "confirm", desc := "()I" } : Jvm.MethodName)) ∈ lw_tbl := z_in4 226 rfl
theorem ln_4_230 : (Jvm.Cond.methodLink "FlashTrust$Loader" (83 : Nat) ({ cls := "FlashTrust$States", name := "confirmStaged", desc := "()V" } : Jvm.MethodName)) ∈ lw_tbl := z_in4 230 rfl
theorem ln_4_234 : (Jvm.Cond.methodLink "FlashTrust$States" (85 : Nat) ({ cls := "FlashTrust$States", name := "otherSlot", desc := "()I" } : Jvm.MethodName)) ∈ lw_tbl := z_in4 234 rfl
theorem ln_4_235 : (Jvm.Cond.methodLink "FlashTrust$States" (89 : Nat) ({ cls := "FlashTrust$States", name := "stageNothing", desc := "()V" } : Jvm.MethodName)) ∈ lw_tbl := z_in4 235 rfl
theorem ln_4_236 : (Jvm.Cond.methodLink "FlashTrust" (189 : Nat) ({ cls := "FlashTrust$Loader", name := "reject", desc := "()I" } : Jvm.MethodName)) ∈ lw_tbl := z_in4 236 rfl
theorem ln_5_0 : (Jvm.Cond.methodLink "FlashTrustLaw" (103 : Nat) ({ cls := "FlashTrust", name := "told", desc := "(I)I" } : Jvm.MethodName)) ∈ lw_tbl := z_in5 0 rfl
theorem ln_5_4 : (Jvm.Cond.methodLink "FlashTrust" (210 : Nat) ({ cls := "FlashTrust$States", name := "tell", desc := "(I)I" } : Jvm.MethodName)) ∈ lw_tbl := z_in5 4 rfl
theorem ln_5_8 : (Jvm.Cond.methodLink "FlashTrustLaw" (107 : Nat) ({ cls := "FlashTrust", name := "trusted", desc := "(III)I" } : Jvm.MethodName)) ∈ lw_tbl := z_in5 8 rfl
theorem ln_5_12 : (Jvm.Cond.methodLink "FlashTrust" (213 : Nat) ({ cls := "FlashTrust$Shelf", name := "number", desc := "()I" } : Jvm.MethodName)) ∈ lw_tbl := z_in5 12 rfl
theorem ln_5_13 : (Jvm.Cond.methodLink "FlashTrust" (216 : Nat) ({ cls := "FlashTrust$Shelf", name := "holds", desc := "()Z" } : Jvm.MethodName)) ∈ lw_tbl := z_in5 13 rfl
theorem ln_5_14 : (Jvm.Cond.methodLink "FlashTrust" (219 : Nat) ({ cls := "FlashTrust$Shelf", name := "paper", desc := "()LFlashTrust$Paper;" } : Jvm.MethodName)) ∈ lw_tbl := z_in5 14 rfl
theorem ln_5_15 : (Jvm.Cond.methodLink "FlashTrust" (223 : Nat) ({ cls := "FlashTrust$Paper", name := "tell", desc := "(II)I" } : Jvm.MethodName)) ∈ lw_tbl := z_in5 15 rfl
theorem ln_5_19 : (Jvm.Cond.methodLink "FlashTrust$Paper" (116 : Nat) ({ cls := "FlashTrust$Paper", name := "isRole", desc := "(I)Z" } : Jvm.MethodName)) ∈ lw_tbl := z_in5 19 rfl
theorem ln_5_23 : (Jvm.Cond.methodLink "FlashTrust$Paper" (120 : Nat) ({ cls := "FlashTrust$Paper", name := "isImage", desc := "(I)Z" } : Jvm.MethodName)) ∈ lw_tbl := z_in5 23 rfl
theorem ln_5_27 : (Jvm.Cond.methodLink "FlashTrustLaw" (111 : Nat) ({ cls := "FlashTrust", name := "flash", desc := "(II)I" } : Jvm.MethodName)) ∈ lw_tbl := z_in5 27 rfl
theorem ln_5_31 : (Jvm.Cond.methodLink "FlashTrustLaw" (115 : Nat) ({ cls := "FlashTrust", name := "digest", desc := "()J" } : Jvm.MethodName)) ∈ lw_tbl := z_in5 31 rfl
theorem ln_5_35 : (Jvm.Cond.methodLink "FlashTrust" (230 : Nat) ({ cls := "FlashTrust$Row", name := "hash", desc := "(II)J" } : Jvm.MethodName)) ∈ lw_tbl := z_in5 35 rfl
theorem ln_5_36 : (Jvm.Cond.methodLink "FlashTrustLaw" (9 : Nat) ({ cls := "FlashTrustLaw", name := "cell", desc := "([II)I" } : Jvm.MethodName)) ∈ lw_tbl := z_in5 36 rfl
theorem ln_5_39 : (Jvm.Cond.classLink "FlashTrustLaw" (18 : Nat) "FlashTrustModel") ∈ lw_tbl := z_in5 39 rfl
theorem ln_5_41 : (Jvm.Cond.methodLink "FlashTrustLaw" (20 : Nat) ({ cls := "FlashTrustModel", name := "<init>", desc := "(I)V" } : Jvm.MethodName)) ∈ lw_tbl := z_in5 41 rfl
theorem ln_5_44 : (Jvm.Cond.methodLink "FlashTrustModel" (1 : Nat) ({ cls := "java/lang/Object", name := "<init>", desc := "()V" } : Jvm.MethodName)) ∈ lw_tbl := z_in5 44 rfl
theorem ln_5_45 : (Jvm.Cond.methodLink "FlashTrustModel" (84 : Nat) ({ cls := "FlashTrustModel", name := "slotAt", desc := "(I)I" } : Jvm.MethodName)) ∈ lw_tbl := z_in5 45 rfl
theorem ln_5_48 : (Jvm.Cond.methodLink "FlashTrustModel" (88 : Nat) ({ cls := "FlashTrustModel", name := "slotDigest", desc := "(II)J" } : Jvm.MethodName)) ∈ lw_tbl := z_in5 48 rfl
theorem ln_5_52 : (Jvm.Cond.methodLink "FlashTrustModel" (113 : Nat) ({ cls := "FlashTrustModel", name := "digestBegin", desc := "()V" } : Jvm.MethodName)) ∈ lw_tbl := z_in5 52 rfl
theorem ln_5_56 : (Jvm.Cond.constantLong "FlashTrustModel" (106 : Nat) (1469598103934665603 : Int64)) ∈ lw_tbl := z_in5 56 rfl
theorem ln_5_57 : (Jvm.Cond.methodLink "FlashTrustModel" (116 : Nat) ({ cls := "FlashTrustModel", name := "digestByte", desc := "(I)V" } : Jvm.MethodName)) ∈ lw_tbl := z_in5 57 rfl
theorem ln_5_61 : (Jvm.Cond.constantLong "FlashTrustModel" (111 : Nat) (1099511628211 : Int64)) ∈ lw_tbl := z_in5 61 rfl
theorem ln_5_62 : (Jvm.Cond.constantLong "FlashTrustModel" (119 : Nat) (281474976710655 : Int64)) ∈ lw_tbl := z_in5 62 rfl
theorem ln_5_63 : (Jvm.Cond.methodLink "FlashTrustModel" (99 : Nat) ({ cls := "FlashTrustModel", name := "layState", desc := "()V" } : Jvm.MethodName)) ∈ lw_tbl := z_in5 63 rfl
theorem ln_5_67 : (Jvm.Cond.methodLink "FlashTrustModel" (164 : Nat) ({ cls := "FlashTrustModel", name := "isState", desc := "(I)Z" } : Jvm.MethodName)) ∈ lw_tbl := z_in5 67 rfl
theorem ln_5_71 : (Jvm.Cond.methodLink "FlashTrustModel" (154 : Nat) ({ cls := "FlashTrustModel", name := "wide", desc := "(II)I" } : Jvm.MethodName)) ∈ lw_tbl := z_in5 71 rfl
theorem ln_5_75 : (Jvm.Cond.methodLink "FlashTrustModel" (158 : Nat) ({ cls := "FlashTrustModel", name := "checkOf", desc := "(II)I" } : Jvm.MethodName)) ∈ lw_tbl := z_in5 75 rfl
theorem ln_5_79 : (Jvm.Cond.methodLink "FlashTrustModel" (150 : Nat) ({ cls := "FlashTrustModel", name := "checkNow", desc := "()I" } : Jvm.MethodName)) ∈ lw_tbl := z_in5 79 rfl
theorem ln_5_83 : (Jvm.Cond.methodLink "FlashTrustModel" (192 : Nat) ({ cls := "FlashTrustModel", name := "six", desc := "(I)J" } : Jvm.MethodName)) ∈ lw_tbl := z_in5 83 rfl
theorem ln_5_87 : (Jvm.Cond.methodLink "FlashTrustModel" (102 : Nat) ({ cls := "FlashTrustModel", name := "layPage", desc := "(I)V" } : Jvm.MethodName)) ∈ lw_tbl := z_in5 87 rfl
theorem ln_5_91 : (Jvm.Cond.methodLink "FlashTrustModel" (199 : Nat) ({ cls := "FlashTrustModel", name := "put", desc := "(JI)V" } : Jvm.MethodName)) ∈ lw_tbl := z_in5 91 rfl
theorem ln_5_95 : (Jvm.Cond.fieldLink "FlashTrustModel" (7 : Nat) "FlashTrustModel" "flash" "[I") ∈ lw_tbl := z_in5 95 rfl
theorem ln_5_96 : (Jvm.Cond.fieldLink "FlashTrustModel" (81 : Nat) "FlashTrustModel" "factoryLength" "I") ∈ lw_tbl := z_in5 96 rfl
theorem ln_5_97 : (Jvm.Cond.fieldLink "FlashTrustModel" (92 : Nat) "FlashTrustModel" "factoryDigest" "J") ∈ lw_tbl := z_in5 97 rfl
theorem ln_5_98 : (Jvm.Cond.fieldLink "FlashTrustModel" (124 : Nat) "FlashTrustModel" "isDown" "Z") ∈ lw_tbl := z_in5 98 rfl
theorem ln_5_99 : (Jvm.Cond.fieldLink "FlashTrustModel" (137 : Nat) "FlashTrustModel" "writings" "I") ∈ lw_tbl := z_in5 99 rfl
theorem ln_5_100 : (Jvm.Cond.fieldLink "FlashTrustModel" (144 : Nat) "FlashTrustModel" "erasings" "I") ∈ lw_tbl := z_in5 100 rfl
theorem ln_5_101 : (Jvm.Cond.fieldLink "FlashTrustModel" (13 : Nat) "FlashTrustModel" "powerLeft" "I") ∈ lw_tbl := z_in5 101 rfl
theorem ln_5_102 : (Jvm.Cond.fieldLink "FlashTrustModel" (147 : Nat) "FlashTrustModel" "powerMask" "I") ∈ lw_tbl := z_in5 102 rfl
theorem ln_5_103 : (Jvm.Cond.fieldLink "FlashTrustModel" (128 : Nat) "FlashTrustModel" "runs" "I") ∈ lw_tbl := z_in5 103 rfl
theorem ln_5_104 : (Jvm.Cond.fieldLink "FlashTrustModel" (131 : Nat) "FlashTrustModel" "onTrial" "Z") ∈ lw_tbl := z_in5 104 rfl
theorem ln_5_105 : (Jvm.Cond.fieldLink "FlashTrustModel" (108 : Nat) "FlashTrustModel" "h" "J") ∈ lw_tbl := z_in5 105 rfl
theorem ln_5_106 : (Jvm.Cond.fieldLink "FlashTrustModel" (17 : Nat) "FlashTrustModel" "tape" "[I") ∈ lw_tbl := z_in5 106 rfl
theorem ln_5_107 : (Jvm.Cond.fieldLink "FlashTrustModel" (121 : Nat) "FlashTrustModel" "taped" "I") ∈ lw_tbl := z_in5 107 rfl
theorem ln_5_108 : (Jvm.Cond.fieldLink "FlashTrustModel" (20 : Nat) "FlashTrustModel" "page" "[I") ∈ lw_tbl := z_in5 108 rfl
theorem ln_5_109 : (Jvm.Cond.fieldLink "FlashTrustModel" (161 : Nat) "FlashTrustModel" "sAt" "I") ∈ lw_tbl := z_in5 109 rfl
theorem ln_5_110 : (Jvm.Cond.fieldLink "FlashTrustModel" (96 : Nat) "FlashTrustModel" "sNumber" "I") ∈ lw_tbl := z_in5 110 rfl
theorem ln_5_111 : (Jvm.Cond.fieldLink "FlashTrustModel" (168 : Nat) "FlashTrustModel" "sSlot" "I") ∈ lw_tbl := z_in5 111 rfl
theorem ln_5_112 : (Jvm.Cond.fieldLink "FlashTrustModel" (171 : Nat) "FlashTrustModel" "sVersion" "I") ∈ lw_tbl := z_in5 112 rfl
theorem ln_5_113 : (Jvm.Cond.fieldLink "FlashTrustModel" (174 : Nat) "FlashTrustModel" "sLength" "I") ∈ lw_tbl := z_in5 113 rfl
theorem ln_5_114 : (Jvm.Cond.fieldLink "FlashTrustModel" (177 : Nat) "FlashTrustModel" "sDigest" "J") ∈ lw_tbl := z_in5 114 rfl
theorem ln_5_115 : (Jvm.Cond.fieldLink "FlashTrustModel" (180 : Nat) "FlashTrustModel" "sStaged" "I") ∈ lw_tbl := z_in5 115 rfl
theorem ln_5_116 : (Jvm.Cond.fieldLink "FlashTrustModel" (183 : Nat) "FlashTrustModel" "gVersion" "I") ∈ lw_tbl := z_in5 116 rfl
theorem ln_5_117 : (Jvm.Cond.fieldLink "FlashTrustModel" (186 : Nat) "FlashTrustModel" "gLength" "I") ∈ lw_tbl := z_in5 117 rfl
theorem ln_5_118 : (Jvm.Cond.fieldLink "FlashTrustModel" (189 : Nat) "FlashTrustModel" "gDigest" "J") ∈ lw_tbl := z_in5 118 rfl
theorem ln_5_119 : (Jvm.Cond.fieldLink "FlashTrustModel" (196 : Nat) "FlashTrustModel" "pageAt" "I") ∈ lw_tbl := z_in5 119 rfl
theorem ln_5_120 : (Jvm.Cond.fieldLink "FlashTrustModel" (23 : Nat) "FlashTrustModel" "doc" "[I") ∈ lw_tbl := z_in5 120 rfl
theorem ln_5_121 : (Jvm.Cond.fieldLink "FlashTrustModel" (217 : Nat) "FlashTrustModel" "docSize" "I") ∈ lw_tbl := z_in5 121 rfl
theorem ln_5_122 : (Jvm.Cond.fieldLink "FlashTrustModel" (220 : Nat) "FlashTrustModel" "docRole" "I") ∈ lw_tbl := z_in5 122 rfl
theorem ln_5_123 : (Jvm.Cond.fieldLink "FlashTrustModel" (223 : Nat) "FlashTrustModel" "bodyFrom" "I") ∈ lw_tbl := z_in5 123 rfl
theorem ln_5_124 : (Jvm.Cond.fieldLink "FlashTrustModel" (226 : Nat) "FlashTrustModel" "bodySize" "I") ∈ lw_tbl := z_in5 124 rfl
theorem ln_5_125 : (Jvm.Cond.fieldLink "FlashTrustModel" (232 : Nat) "FlashTrustModel" "docKeys" "I") ∈ lw_tbl := z_in5 125 rfl
theorem ln_5_126 : (Jvm.Cond.fieldLink "FlashTrustModel" (235 : Nat) "FlashTrustModel" "docVersion" "I") ∈ lw_tbl := z_in5 126 rfl
theorem ln_5_127 : (Jvm.Cond.fieldLink "FlashTrustModel" (238 : Nat) "FlashTrustModel" "docEnd" "J") ∈ lw_tbl := z_in5 127 rfl
theorem ln_5_128 : (Jvm.Cond.fieldLink "FlashTrustModel" (26 : Nat) "FlashTrustModel" "roleKeys" "[I") ∈ lw_tbl := z_in5 128 rfl
theorem ln_5_129 : (Jvm.Cond.fieldLink "FlashTrustModel" (29 : Nat) "FlashTrustModel" "roleThreshold" "[I") ∈ lw_tbl := z_in5 129 rfl
theorem ln_5_130 : (Jvm.Cond.fieldLink "FlashTrustModel" (247 : Nat) "FlashTrustModel" "toldVersion" "I") ∈ lw_tbl := z_in5 130 rfl
theorem ln_5_131 : (Jvm.Cond.fieldLink "FlashTrustModel" (253 : Nat) "FlashTrustModel" "toldDigest" "J") ∈ lw_tbl := z_in5 131 rfl
theorem ln_5_132 : (Jvm.Cond.fieldLink "FlashTrustModel" (256 : Nat) "FlashTrustModel" "images" "I") ∈ lw_tbl := z_in5 132 rfl
theorem ln_5_133 : (Jvm.Cond.fieldLink "FlashTrustModel" (32 : Nat) "FlashTrustModel" "imageVersion" "[I") ∈ lw_tbl := z_in5 133 rfl
theorem ln_5_134 : (Jvm.Cond.fieldLink "FlashTrustModel" (35 : Nat) "FlashTrustModel" "imageLength" "[I") ∈ lw_tbl := z_in5 134 rfl
theorem ln_5_135 : (Jvm.Cond.fieldLink "FlashTrustModel" (38 : Nat) "FlashTrustModel" "imageDigest" "[J") ∈ lw_tbl := z_in5 135 rfl
theorem ln_5_136 : (Jvm.Cond.fieldLink "FlashTrustModel" (42 : Nat) "FlashTrustModel" "signedKey" "[I") ∈ lw_tbl := z_in5 136 rfl
theorem ln_5_137 : (Jvm.Cond.fieldLink "FlashTrustModel" (45 : Nat) "FlashTrustModel" "signedDigest" "[J") ∈ lw_tbl := z_in5 137 rfl
theorem ln_5_138 : (Jvm.Cond.fieldLink "FlashTrustModel" (259 : Nat) "FlashTrustModel" "signed" "I") ∈ lw_tbl := z_in5 138 rfl
theorem ln_5_139 : (Jvm.Cond.fieldLink "FlashTrustModel" (273 : Nat) "FlashTrustModel" "recordSector" "I") ∈ lw_tbl := z_in5 139 rfl
theorem ln_5_140 : (Jvm.Cond.fieldLink "FlashTrustModel" (276 : Nat) "FlashTrustModel" "recordNumber" "I") ∈ lw_tbl := z_in5 140 rfl
theorem ln_5_141 : (Jvm.Cond.fieldLink "FlashTrustModel" (279 : Nat) "FlashTrustModel" "recordSize" "I") ∈ lw_tbl := z_in5 141 rfl
theorem ln_5_142 : (Jvm.Cond.fieldLink "FlashTrustModel" (48 : Nat) "FlashTrustModel" "record" "[I") ∈ lw_tbl := z_in5 142 rfl
theorem ln_5_143 : (Jvm.Cond.fieldLink "FlashTrustModel" (134 : Nat) "FlashTrustModel" "awaited" "I") ∈ lw_tbl := z_in5 143 rfl
theorem ln_5_144 : (Jvm.Cond.fieldLink "FlashTrustModel" (301 : Nat) "FlashTrustModel" "clock" "I") ∈ lw_tbl := z_in5 144 rfl
theorem ln_5_145 : (Jvm.Cond.fieldLink "FlashTrustModel" (298 : Nat) "FlashTrustModel" "lastError" "I") ∈ lw_tbl := z_in5 145 rfl
theorem ln_5_146 : (Jvm.Cond.fieldLink "FlashTrustModel" (386 : Nat) "FlashTrustModel" "pieceNow" "I") ∈ lw_tbl := z_in5 146 rfl
theorem ln_5_147 : (Jvm.Cond.fieldLink "FlashTrustModel" (377 : Nat) "FlashTrustModel" "wantVersion" "I") ∈ lw_tbl := z_in5 147 rfl
theorem ln_5_148 : (Jvm.Cond.fieldLink "FlashTrustModel" (380 : Nat) "FlashTrustModel" "wantLength" "I") ∈ lw_tbl := z_in5 148 rfl
theorem ln_5_149 : (Jvm.Cond.fieldLink "FlashTrustModel" (383 : Nat) "FlashTrustModel" "wantDigest" "J") ∈ lw_tbl := z_in5 149 rfl
theorem ln_5_150 : (Jvm.Cond.fieldLink "FlashTrustModel" (51 : Nat) "FlashTrustModel" "came" "[I") ∈ lw_tbl := z_in5 150 rfl
theorem ln_5_151 : (Jvm.Cond.fieldLink "FlashTrustModel" (295 : Nat) "FlashTrustModel" "cameSize" "I") ∈ lw_tbl := z_in5 151 rfl
theorem ln_5_152 : (Jvm.Cond.fieldLink "FlashTrustModel" (325 : Nat) "FlashTrustModel" "trustedKeys" "I") ∈ lw_tbl := z_in5 152 rfl
theorem ln_5_153 : (Jvm.Cond.fieldLink "FlashTrustModel" (328 : Nat) "FlashTrustModel" "trustedThreshold" "I") ∈ lw_tbl := z_in5 153 rfl
theorem ln_5_154 : (Jvm.Cond.fieldLink "FlashTrustModel" (344 : Nat) "FlashTrustModel" "wasThere" "Z") ∈ lw_tbl := z_in5 154 rfl
theorem ln_5_155 : (Jvm.Cond.fieldLink "FlashTrustModel" (347 : Nat) "FlashTrustModel" "wasVersion" "I") ∈ lw_tbl := z_in5 155 rfl
theorem ln_5_156 : (Jvm.Cond.fieldLink "FlashTrustModel" (350 : Nat) "FlashTrustModel" "wasTold" "I") ∈ lw_tbl := z_in5 156 rfl
theorem ln_5_157 : (Jvm.Cond.fieldLink "FlashTrustModel" (353 : Nat) "FlashTrustModel" "wasDigest" "J") ∈ lw_tbl := z_in5 157 rfl
theorem ln_5_158 : (Jvm.Cond.fieldLink "FlashTrustModel" (54 : Nat) "FlashTrustModel" "planKeys" "[I") ∈ lw_tbl := z_in5 158 rfl
theorem ln_5_159 : (Jvm.Cond.fieldLink "FlashTrustModel" (57 : Nat) "FlashTrustModel" "planThreshold" "[I") ∈ lw_tbl := z_in5 159 rfl
theorem ln_5_160 : (Jvm.Cond.fieldLink "FlashTrustModel" (396 : Nat) "FlashTrustModel" "planImages" "I") ∈ lw_tbl := z_in5 160 rfl
theorem ln_5_161 : (Jvm.Cond.fieldLink "FlashTrustModel" (60 : Nat) "FlashTrustModel" "planVersion" "[I") ∈ lw_tbl := z_in5 161 rfl
theorem ln_5_162 : (Jvm.Cond.fieldLink "FlashTrustModel" (63 : Nat) "FlashTrustModel" "planLength" "[I") ∈ lw_tbl := z_in5 162 rfl
theorem ln_5_163 : (Jvm.Cond.fieldLink "FlashTrustModel" (66 : Nat) "FlashTrustModel" "planSeed" "[I") ∈ lw_tbl := z_in5 163 rfl
theorem ln_5_164 : (Jvm.Cond.fieldLink "FlashTrustModel" (69 : Nat) "FlashTrustModel" "draft" "[I") ∈ lw_tbl := z_in5 164 rfl
theorem ln_5_165 : (Jvm.Cond.fieldLink "FlashTrustModel" (72 : Nat) "FlashTrustModel" "draftRole" "I") ∈ lw_tbl := z_in5 165 rfl
theorem ln_5_166 : (Jvm.Cond.fieldLink "FlashTrustModel" (399 : Nat) "FlashTrustModel" "draftSize" "I") ∈ lw_tbl := z_in5 166 rfl
theorem ln_5_167 : (Jvm.Cond.fieldLink "FlashTrustModel" (405 : Nat) "FlashTrustModel" "draftKeys" "I") ∈ lw_tbl := z_in5 167 rfl
theorem ln_5_168 : (Jvm.Cond.fieldLink "FlashTrustModel" (75 : Nat) "FlashTrustModel" "lastVersion" "[I") ∈ lw_tbl := z_in5 168 rfl
theorem ln_5_169 : (Jvm.Cond.fieldLink "FlashTrustModel" (78 : Nat) "FlashTrustModel" "lastDigest" "[J") ∈ lw_tbl := z_in5 169 rfl
theorem ln_6_81 : (Jvm.Cond.methodLink "FlashTrustLaw" (25 : Nat) ({ cls := "FlashTrustModel", name := "feed", desc := "(IIIII)I" } : Jvm.MethodName)) ∈ lw_tbl := z_in6 81 rfl
theorem ln_6_85 : (Jvm.Cond.methodLink "FlashTrustLaw" (30 : Nat) ({ cls := "FlashTrustModel", name := "end", desc := "(I)I" } : Jvm.MethodName)) ∈ lw_tbl := z_in6 85 rfl
theorem ln_6_89 : (Jvm.Cond.methodLink "FlashTrustLaw" (34 : Nat) ({ cls := "FlashTrustModel", name := "byteOf", desc := "(I)I" } : Jvm.MethodName)) ∈ lw_tbl := z_in6 89 rfl
theorem ln_6_93 : (Jvm.Cond.methodLink "FlashTrustLaw" (69 : Nat) ({ cls := "FlashTrustModel", name := "spoil", desc := "(II)I" } : Jvm.MethodName)) ∈ lw_tbl := z_in6 93 rfl
theorem ln_6_97 : (Jvm.Cond.methodLink "FlashTrustLaw" (119 : Nat) ({ cls := "FlashTrustModel", name := "digest", desc := "()J" } : Jvm.MethodName)) ∈ lw_tbl := z_in6 97 rfl
theorem ln_6_101 : (Jvm.Cond.methodLink "FlashTrustLaw" (114 : Nat) ({ cls := "FlashTrustModel", name := "flash", desc := "(II)I" } : Jvm.MethodName)) ∈ lw_tbl := z_in6 101 rfl
theorem ln_6_105 : (Jvm.Cond.methodLink "FlashTrustLaw" (73 : Nat) ({ cls := "FlashTrustModel", name := "begin", desc := "(I)I" } : Jvm.MethodName)) ∈ lw_tbl := z_in6 105 rfl
theorem ln_6_109 : (Jvm.Cond.methodLink "FlashTrustLaw" (77 : Nat) ({ cls := "FlashTrustModel", name := "answer", desc := "()I" } : Jvm.MethodName)) ∈ lw_tbl := z_in6 109 rfl
theorem ln_6_113 : (Jvm.Cond.methodLink "FlashTrustModel" (304 : Nat) ({ cls := "FlashTrustModel", name := "takePiece", desc := "(I)I" } : Jvm.MethodName)) ∈ lw_tbl := z_in6 113 rfl
theorem ln_6_117 : (Jvm.Cond.methodLink "FlashTrustModel" (307 : Nat) ({ cls := "FlashTrustModel", name := "fail", desc := "(I)I" } : Jvm.MethodName)) ∈ lw_tbl := z_in6 117 rfl
theorem ln_6_121 : (Jvm.Cond.methodLink "FlashTrustModel" (209 : Nat) ({ cls := "FlashTrustModel", name := "writePage", desc := "(I)V" } : Jvm.MethodName)) ∈ lw_tbl := z_in6 121 rfl
theorem ln_6_125 : (Jvm.Cond.methodLink "FlashTrustModel" (140 : Nat) ({ cls := "FlashTrustModel", name := "hasPower", desc := "()Z" } : Jvm.MethodName)) ∈ lw_tbl := z_in6 125 rfl
theorem ln_6_129 : (Jvm.Cond.methodLink "FlashTrustModel" (389 : Nat) ({ cls := "FlashTrustModel", name := "writeState", desc := "(I)V" } : Jvm.MethodName)) ∈ lw_tbl := z_in6 129 rfl
theorem ln_6_133 : (Jvm.Cond.methodLink "FlashTrustModel" (203 : Nat) ({ cls := "FlashTrustModel", name := "isErased", desc := "(I)Z" } : Jvm.MethodName)) ∈ lw_tbl := z_in6 133 rfl
theorem ln_6_137 : (Jvm.Cond.methodLink "FlashTrustModel" (206 : Nat) ({ cls := "FlashTrustModel", name := "erase", desc := "(I)V" } : Jvm.MethodName)) ∈ lw_tbl := z_in6 137 rfl
theorem ln_6_141 : (Jvm.Cond.methodLink "FlashTrustModel" (270 : Nat) ({ cls := "FlashTrustModel", name := "readDoc", desc := "()Z" } : Jvm.MethodName)) ∈ lw_tbl := z_in6 141 rfl
theorem ln_6_145 : (Jvm.Cond.methodLink "FlashTrustModel" (212 : Nat) ({ cls := "FlashTrustModel", name := "docWide", desc := "(II)I" } : Jvm.MethodName)) ∈ lw_tbl := z_in6 145 rfl
theorem ln_6_149 : (Jvm.Cond.methodLink "FlashTrustModel" (229 : Nat) ({ cls := "FlashTrustModel", name := "keysAt", desc := "(II)I" } : Jvm.MethodName)) ∈ lw_tbl := z_in6 149 rfl
theorem ln_6_153 : (Jvm.Cond.constantLong "FlashTrustModel" (215 : Nat) (4294967295 : Int64)) ∈ lw_tbl := z_in6 153 rfl
theorem ln_6_154 : (Jvm.Cond.methodLink "FlashTrustModel" (241 : Nat) ({ cls := "FlashTrustModel", name := "readRoles", desc := "()Z" } : Jvm.MethodName)) ∈ lw_tbl := z_in6 154 rfl
theorem ln_6_158 : (Jvm.Cond.methodLink "FlashTrustModel" (244 : Nat) ({ cls := "FlashTrustModel", name := "readImages", desc := "()Z" } : Jvm.MethodName)) ∈ lw_tbl := z_in6 158 rfl
theorem ln_6_162 : (Jvm.Cond.methodLink "FlashTrustModel" (250 : Nat) ({ cls := "FlashTrustModel", name := "docLong", desc := "(I)J" } : Jvm.MethodName)) ∈ lw_tbl := z_in6 162 rfl
theorem ln_6_166 : (Jvm.Cond.methodLink "FlashTrustModel" (310 : Nat) ({ cls := "FlashTrustModel", name := "takeRoot", desc := "()I" } : Jvm.MethodName)) ∈ lw_tbl := z_in6 166 rfl
theorem ln_6_170 : (Jvm.Cond.methodLink "FlashTrustModel" (322 : Nat) ({ cls := "FlashTrustModel", name := "takeTrusted", desc := "(I)Z" } : Jvm.MethodName)) ∈ lw_tbl := z_in6 170 rfl
theorem ln_6_174 : (Jvm.Cond.methodLink "FlashTrustModel" (286 : Nat) ({ cls := "FlashTrustModel", name := "findRecord", desc := "(I)V" } : Jvm.MethodName)) ∈ lw_tbl := z_in6 174 rfl
theorem ln_6_178 : (Jvm.Cond.methodLink "FlashTrustModel" (282 : Nat) ({ cls := "FlashTrustModel", name := "isRecord", desc := "(III)Z" } : Jvm.MethodName)) ∈ lw_tbl := z_in6 178 rfl
theorem ln_6_182 : (Jvm.Cond.constantLong "FlashTrustModel" (289 : Nat) (1000 : Int64)) ∈ lw_tbl := z_in6 182 rfl
theorem ln_6_183 : (Jvm.Cond.methodLink "FlashTrustModel" (331 : Nat) ({ cls := "FlashTrustModel", name := "takeCame", desc := "()V" } : Jvm.MethodName)) ∈ lw_tbl := z_in6 183 rfl
theorem ln_6_187 : (Jvm.Cond.methodLink "FlashTrustModel" (334 : Nat) ({ cls := "FlashTrustModel", name := "has", desc := "(II)Z" } : Jvm.MethodName)) ∈ lw_tbl := z_in6 187 rfl
theorem ln_6_191 : (Jvm.Cond.methodLink "FlashTrustModel" (262 : Nat) ({ cls := "FlashTrustModel", name := "bodyDigest", desc := "()J" } : Jvm.MethodName)) ∈ lw_tbl := z_in6 191 rfl
theorem ln_6_195 : (Jvm.Cond.methodLink "FlashTrustModel" (266 : Nat) ({ cls := "FlashTrustModel", name := "hasSigned", desc := "(IJ)Z" } : Jvm.MethodName)) ∈ lw_tbl := z_in6 195 rfl
theorem ln_6_199 : (Jvm.Cond.methodLink "FlashTrustModel" (338 : Nat) ({ cls := "FlashTrustModel", name := "dropTrusted", desc := "(I)V" } : Jvm.MethodName)) ∈ lw_tbl := z_in6 199 rfl
theorem ln_6_203 : (Jvm.Cond.methodLink "FlashTrustModel" (291 : Nat) ({ cls := "FlashTrustModel", name := "keepRecord", desc := "(II)V" } : Jvm.MethodName)) ∈ lw_tbl := z_in6 203 rfl
theorem ln_6_207 : (Jvm.Cond.methodLink "FlashTrustModel" (341 : Nat) ({ cls := "FlashTrustModel", name := "keepDoc", desc := "()V" } : Jvm.MethodName)) ∈ lw_tbl := z_in6 207 rfl
theorem ln_6_211 : (Jvm.Cond.methodLink "FlashTrustModel" (313 : Nat) ({ cls := "FlashTrustModel", name := "takeTime", desc := "()I" } : Jvm.MethodName)) ∈ lw_tbl := z_in6 211 rfl
theorem ln_6_215 : (Jvm.Cond.methodLink "FlashTrustModel" (356 : Nat) ({ cls := "FlashTrustModel", name := "takeRole", desc := "(I)V" } : Jvm.MethodName)) ∈ lw_tbl := z_in6 215 rfl
theorem ln_6_219 : (Jvm.Cond.methodLink "FlashTrustModel" (359 : Nat) ({ cls := "FlashTrustModel", name := "takeWas", desc := "(I)V" } : Jvm.MethodName)) ∈ lw_tbl := z_in6 219 rfl
theorem ln_6_223 : (Jvm.Cond.methodLink "FlashTrustModel" (362 : Nat) ({ cls := "FlashTrustModel", name := "keepOther", desc := "(I)V" } : Jvm.MethodName)) ∈ lw_tbl := z_in6 223 rfl
theorem ln_6_227 : (Jvm.Cond.methodLink "FlashTrustModel" (365 : Nat) ({ cls := "FlashTrustModel", name := "goToList", desc := "()I" } : Jvm.MethodName)) ∈ lw_tbl := z_in6 227 rfl
theorem ln_6_231 : (Jvm.Cond.methodLink "FlashTrustModel" (368 : Nat) ({ cls := "FlashTrustModel", name := "saveCame", desc := "()V" } : Jvm.MethodName)) ∈ lw_tbl := z_in6 231 rfl
theorem ln_6_235 : (Jvm.Cond.methodLink "FlashTrustModel" (316 : Nat) ({ cls := "FlashTrustModel", name := "takeList", desc := "()I" } : Jvm.MethodName)) ∈ lw_tbl := z_in6 235 rfl
theorem ln_6_239 : (Jvm.Cond.methodLink "FlashTrustModel" (371 : Nat) ({ cls := "FlashTrustModel", name := "goToImages", desc := "()I" } : Jvm.MethodName)) ∈ lw_tbl := z_in6 239 rfl
theorem ln_7_3 : (Jvm.Cond.methodLink "FlashTrustModel" (319 : Nat) ({ cls := "FlashTrustModel", name := "takeImages", desc := "()I" } : Jvm.MethodName)) ∈ lw_tbl := z_in7 3 rfl
theorem ln_7_7 : (Jvm.Cond.methodLink "FlashTrustModel" (374 : Nat) ({ cls := "FlashTrustModel", name := "goToPieces", desc := "()I" } : Jvm.MethodName)) ∈ lw_tbl := z_in7 7 rfl
theorem ln_7_11 : (Jvm.Cond.methodLink "FlashTrustLaw" (81 : Nat) ({ cls := "FlashTrustModel", name := "refuse", desc := "()I" } : Jvm.MethodName)) ∈ lw_tbl := z_in7 11 rfl
theorem ln_7_15 : (Jvm.Cond.methodLink "FlashTrustLaw" (85 : Nat) ({ cls := "FlashTrustModel", name := "awaits", desc := "(I)I" } : Jvm.MethodName)) ∈ lw_tbl := z_in7 15 rfl
theorem ln_7_19 : (Jvm.Cond.methodLink "FlashTrustLaw" (89 : Nat) ({ cls := "FlashTrustModel", name := "stop", desc := "()I" } : Jvm.MethodName)) ∈ lw_tbl := z_in7 19 rfl
theorem ln_7_23 : (Jvm.Cond.methodLink "FlashTrustLaw" (93 : Nat) ({ cls := "FlashTrustModel", name := "power", desc := "(II)I" } : Jvm.MethodName)) ∈ lw_tbl := z_in7 23 rfl
theorem ln_7_27 : (Jvm.Cond.methodLink "FlashTrustLaw" (97 : Nat) ({ cls := "FlashTrustModel", name := "boot", desc := "()I" } : Jvm.MethodName)) ∈ lw_tbl := z_in7 27 rfl
theorem ln_7_31 : (Jvm.Cond.methodLink "FlashTrustModel" (392 : Nat) ({ cls := "FlashTrustModel", name := "runConfirmed", desc := "()V" } : Jvm.MethodName)) ∈ lw_tbl := z_in7 31 rfl
theorem ln_7_35 : (Jvm.Cond.methodLink "FlashTrustLaw" (102 : Nat) ({ cls := "FlashTrustModel", name := "test", desc := "(Z)I" } : Jvm.MethodName)) ∈ lw_tbl := z_in7 35 rfl
theorem ln_7_39 : (Jvm.Cond.methodLink "FlashTrustLaw" (106 : Nat) ({ cls := "FlashTrustModel", name := "told", desc := "(I)I" } : Jvm.MethodName)) ∈ lw_tbl := z_in7 39 rfl
theorem ln_7_43 : (Jvm.Cond.methodLink "FlashTrustLaw" (110 : Nat) ({ cls := "FlashTrustModel", name := "trusted", desc := "(III)I" } : Jvm.MethodName)) ∈ lw_tbl := z_in7 43 rfl
theorem ln_7_47 : (Jvm.Cond.methodLink "FlashTrustLaw" (39 : Nat) ({ cls := "FlashTrustModel", name := "plan", desc := "(III)I" } : Jvm.MethodName)) ∈ lw_tbl := z_in7 47 rfl
theorem ln_7_51 : (Jvm.Cond.constant "FlashTrustModel" (395 : Nat) (65535 : Int32)) ∈ lw_tbl := z_in7 51 rfl
theorem ln_7_52 : (Jvm.Cond.methodLink "FlashTrustLaw" (43 : Nat) ({ cls := "FlashTrustModel", name := "image", desc := "(III)I" } : Jvm.MethodName)) ∈ lw_tbl := z_in7 52 rfl
theorem ln_7_56 : (Jvm.Cond.methodLink "FlashTrustLaw" (48 : Nat) ({ cls := "FlashTrustModel", name := "clear", desc := "()I" } : Jvm.MethodName)) ∈ lw_tbl := z_in7 56 rfl
theorem ln_7_60 : (Jvm.Cond.methodLink "FlashTrustLaw" (52 : Nat) ({ cls := "FlashTrustModel", name := "draft", desc := "(III)I" } : Jvm.MethodName)) ∈ lw_tbl := z_in7 60 rfl
theorem ln_7_64 : (Jvm.Cond.methodLink "FlashTrustModel" (402 : Nat) ({ cls := "FlashTrustModel", name := "draftPut", desc := "(JI)V" } : Jvm.MethodName)) ∈ lw_tbl := z_in7 64 rfl
theorem ln_7_68 : (Jvm.Cond.methodLink "FlashTrustModel" (408 : Nat) ({ cls := "FlashTrustModel", name := "many", desc := "(I)I" } : Jvm.MethodName)) ∈ lw_tbl := z_in7 68 rfl
theorem ln_7_71 : (Jvm.Cond.methodLink "FlashTrustModel" (411 : Nat) ({ cls := "FlashTrustModel", name := "draftKeysOf", desc := "(I)V" } : Jvm.MethodName)) ∈ lw_tbl := z_in7 71 rfl
theorem ln_7_75 : (Jvm.Cond.methodLink "FlashTrustModel" (414 : Nat) ({ cls := "FlashTrustModel", name := "imageByte", desc := "(II)I" } : Jvm.MethodName)) ∈ lw_tbl := z_in7 75 rfl
theorem ln_7_79 : (Jvm.Cond.methodLink "FlashTrustModel" (417 : Nat) ({ cls := "FlashTrustModel", name := "draftDigest", desc := "()J" } : Jvm.MethodName)) ∈ lw_tbl := z_in7 79 rfl
theorem ln_7_83 : (Jvm.Cond.methodLink "FlashTrustLaw" (56 : Nat) ({ cls := "FlashTrustModel", name := "sign", desc := "(I)I" } : Jvm.MethodName)) ∈ lw_tbl := z_in7 83 rfl
theorem ln_7_87 : (Jvm.Cond.methodLink "FlashTrustLaw" (60 : Nat) ({ cls := "FlashTrustModel", name := "show", desc := "()I" } : Jvm.MethodName)) ∈ lw_tbl := z_in7 87 rfl
theorem ln_7_91 : (Jvm.Cond.methodLink "FlashTrustLaw" (65 : Nat) ({ cls := "FlashTrustModel", name := "piece", desc := "(II)I" } : Jvm.MethodName)) ∈ lw_tbl := z_in7 91 rfl
theorem ln_7_95 : (Jvm.Cond.constantLong "FlashTrustModel" (420 : Nat) (64 : Int64)) ∈ lw_tbl := z_in7 95 rfl
section ZG
variable {q : z_Q} {X : z_X} {cc : ByteArray} {nL : Nat} {own nm : String} {ret : Option FieldType} {Q : State → Prop} {k n : Nat} {G : z_G} {D : z_D} {pc : Nat} {lv : List (Nat × Value)} {st : List Value}
theorem hu_0 : ((z_T 0).map Prod.snd).Nodup := by decide +kernel
theorem gt_0_0 (o : z_O q X cc nL own nm ret) {a i : Nat} (hK : z_K G a = 100) (hw : Cond.fieldLink own i "FlashTrust$Entry" "flash" "LFlashTrust$Flash;" ∈ lw_tbl) (hk : z_K G (z_R G 0 a) ≠ 0) (d : decode cc pc = .ok (.getfield i, 3)) (h : z_V q X nL Q k n G D (pc + 3) lv (.ref (z_w q (z_R G 0 a)) :: st)) : z_V q X nL Q k n G D pc lv (.ref (z_w q a) :: st) := z_getR o 0 0 0 rfl z_cw0 (by decide) hK rfl hw hk d h
theorem pt_0_0 (o : z_O q X cc nL own nm ret) {a i v : Nat} (hv : v ≠ 0) (hK : z_K G a = 100) (hw : Cond.fieldLink own i "FlashTrust$Entry" "flash" "LFlashTrust$Flash;" ∈ lw_tbl) (hnm : nm = "<init>") (hown : own = "FlashTrust$Entry") (d : decode cc pc = .ok (.putfield i, 3)) (h : z_V q X nL Q k n (z_sR G 0 a v) D (pc + 3) lv st) : z_V q X nL Q k n G D pc lv (.ref (z_w q v) :: .ref (z_w q a) :: st) := z_putR o 0 0 rfl z_cw0 tyX0 tyX0_ok nmX0 (by decide) rfl hu_0 hK hv hw (Or.inr ⟨rfl, hnm, hown.symm⟩) rfl rfl d h
theorem gt_0_1 (o : z_O q X cc nL own nm ret) {a i : Nat} (hK : z_K G a = 100) (hw : Cond.fieldLink own i "FlashTrust$Entry" "role" "I" ∈ lw_tbl) (d : decode cc pc = .ok (.getfield i, 3)) (h : z_V q X nL Q k n G D (pc + 3) lv (.int (z_I D 1 a) :: st)) : z_V q X nL Q k n G D pc lv (.ref (z_w q a) :: st) := z_get o 0 1 rfl z_cw0 (by decide) hK rfl hw d h
theorem pt_0_1 (o : z_O q X cc nL own nm ret) {a i : Nat} {v : Int32} (hK : z_K G a = 100) (hw : Cond.fieldLink own i "FlashTrust$Entry" "role" "I" ∈ lw_tbl) (hnm : nm = "<init>") (hown : own = "FlashTrust$Entry") (d : decode cc pc = .ok (.putfield i, 3)) (h : z_V q X nL Q k n G (z_sI D 1 a v) (pc + 3) lv st) : z_V q X nL Q k n G D pc lv (.int v :: .ref (z_w q a) :: st) := z_putI o 0 1 rfl z_cw0 tyX0 tyX0_ok nmX0 (by decide) rfl hu_0 hK hw (Or.inr ⟨rfl, hnm, hown.symm⟩) rfl rfl d h
theorem gt_0_2 (o : z_O q X cc nL own nm ret) {a i : Nat} (hK : z_K G a = 100) (hw : Cond.fieldLink own i "FlashTrust$Entry" "sector" "I" ∈ lw_tbl) (d : decode cc pc = .ok (.getfield i, 3)) (h : z_V q X nL Q k n G D (pc + 3) lv (.int (z_I D 2 a) :: st)) : z_V q X nL Q k n G D pc lv (.ref (z_w q a) :: st) := z_get o 0 2 rfl z_cw0 (by decide) hK rfl hw d h
theorem pt_0_2 (o : z_O q X cc nL own nm ret) {a i : Nat} {v : Int32} (hK : z_K G a = 100) (hw : Cond.fieldLink own i "FlashTrust$Entry" "sector" "I" ∈ lw_tbl) (hnm : nm = "<init>") (hown : own = "FlashTrust$Entry") (d : decode cc pc = .ok (.putfield i, 3)) (h : z_V q X nL Q k n G (z_sI D 2 a v) (pc + 3) lv st) : z_V q X nL Q k n G D pc lv (.int v :: .ref (z_w q a) :: st) := z_putI o 0 2 rfl z_cw0 tyX0 tyX0_ok nmX0 (by decide) rfl hu_0 hK hw (Or.inr ⟨rfl, hnm, hown.symm⟩) rfl rfl d h
theorem gt_0_3 (o : z_O q X cc nL own nm ret) {a i : Nat} (hK : z_K G a = 100) (hw : Cond.fieldLink own i "FlashTrust$Entry" "paper" "LFlashTrust$Paper;" ∈ lw_tbl) (hk : z_K G (z_R G 3 a) ≠ 0) (d : decode cc pc = .ok (.getfield i, 3)) (h : z_V q X nL Q k n G D (pc + 3) lv (.ref (z_w q (z_R G 3 a)) :: st)) : z_V q X nL Q k n G D pc lv (.ref (z_w q a) :: st) := z_getR o 0 3 3 rfl z_cw0 (by decide) hK rfl hw hk d h
theorem pt_0_3 (o : z_O q X cc nL own nm ret) {a i v : Nat} (hv : v ≠ 0) (hK : z_K G a = 100) (hw : Cond.fieldLink own i "FlashTrust$Entry" "paper" "LFlashTrust$Paper;" ∈ lw_tbl) (hnm : nm = "<init>") (hown : own = "FlashTrust$Entry") (d : decode cc pc = .ok (.putfield i, 3)) (h : z_V q X nL Q k n (z_sR G 3 a v) D (pc + 3) lv st) : z_V q X nL Q k n G D pc lv (.ref (z_w q v) :: .ref (z_w q a) :: st) := z_putR o 0 3 rfl z_cw0 tyX0 tyX0_ok nmX0 (by decide) rfl hu_0 hK hv hw (Or.inr ⟨rfl, hnm, hown.symm⟩) rfl rfl d h
theorem gt_0_4 (o : z_O q X cc nL own nm ret) {a i : Nat} (hK : z_K G a = 100) (hw : Cond.fieldLink own i "FlashTrust$Entry" "number" "I" ∈ lw_tbl) (d : decode cc pc = .ok (.getfield i, 3)) (h : z_V q X nL Q k n G D (pc + 3) lv (.int (z_I D 4 a) :: st)) : z_V q X nL Q k n G D pc lv (.ref (z_w q a) :: st) := z_get o 0 4 rfl z_cw0 (by decide) hK rfl hw d h
theorem pt_0_4 (o : z_O q X cc nL own nm ret) {a i : Nat} {v : Int32} (hK : z_K G a = 100) (hw : Cond.fieldLink own i "FlashTrust$Entry" "number" "I" ∈ lw_tbl) (d : decode cc pc = .ok (.putfield i, 3)) (h : z_V q X nL Q k n G (z_sI D 4 a v) (pc + 3) lv st) : z_V q X nL Q k n G D pc lv (.int v :: .ref (z_w q a) :: st) := z_putI o 0 4 rfl z_cw0 tyX0 tyX0_ok nmX0 (by decide) rfl hu_0 hK hw (Or.inl rfl) rfl rfl d h
theorem gt_0_5 (o : z_O q X cc nL own nm ret) {a i : Nat} (hK : z_K G a = 100) (hw : Cond.fieldLink own i "FlashTrust$Entry" "holds" "Z" ∈ lw_tbl) (d : decode cc pc = .ok (.getfield i, 3)) (h : z_V q X nL Q k n G D (pc + 3) lv (.int (z_I D 5 a) :: st)) : z_V q X nL Q k n G D pc lv (.ref (z_w q a) :: st) := z_get o 0 5 rfl z_cw0 (by decide) hK rfl hw d h
theorem pt_0_5 (o : z_O q X cc nL own nm ret) {a i : Nat} {v : Int32} (hK : z_K G a = 100) (hw : Cond.fieldLink own i "FlashTrust$Entry" "holds" "Z" ∈ lw_tbl) (hv : v = 0 ∨ v = 1) (d : decode cc pc = .ok (.putfield i, 3)) (h : z_V q X nL Q k n G (z_sI D 5 a v) (pc + 3) lv st) : z_V q X nL Q k n G D pc lv (.int v :: .ref (z_w q a) :: st) := z_putI o 0 5 rfl z_cw0 tyX0 tyX0_ok nmX0 (by decide) rfl hu_0 hK hw (Or.inl rfl) (z_nb hv) (z_fb hv) d h
theorem hu_1 : ((z_T 1).map Prod.snd).Nodup := by decide +kernel
theorem gt_1_0 (o : z_O q X cc nL own nm ret) {a i : Nat} (hK : z_K G a = 101) (hw : Cond.fieldLink own i "FlashTrust$Flash" "cells" "LFlashTrust$Row;" ∈ lw_tbl) (hk : z_K G (z_R G 100 a) ≠ 0) (d : decode cc pc = .ok (.getfield i, 3)) (h : z_V q X nL Q k n G D (pc + 3) lv (.ref (z_w q (z_R G 100 a)) :: st)) : z_V q X nL Q k n G D pc lv (.ref (z_w q a) :: st) := z_getR o 1 0 100 rfl z_cw1 (by decide) hK rfl hw hk d h
theorem pt_1_0 (o : z_O q X cc nL own nm ret) {a i v : Nat} (hv : v ≠ 0) (hK : z_K G a = 101) (hw : Cond.fieldLink own i "FlashTrust$Flash" "cells" "LFlashTrust$Row;" ∈ lw_tbl) (hnm : nm = "<init>") (hown : own = "FlashTrust$Flash") (d : decode cc pc = .ok (.putfield i, 3)) (h : z_V q X nL Q k n (z_sR G 100 a v) D (pc + 3) lv st) : z_V q X nL Q k n G D pc lv (.ref (z_w q v) :: .ref (z_w q a) :: st) := z_putR o 1 0 rfl z_cw1 tyX1 tyX1_ok nmX1 (by decide) rfl hu_1 hK hv hw (Or.inr ⟨rfl, hnm, hown.symm⟩) rfl rfl d h
theorem gt_1_1 (o : z_O q X cc nL own nm ret) {a i : Nat} (hK : z_K G a = 101) (hw : Cond.fieldLink own i "FlashTrust$Flash" "writings" "I" ∈ lw_tbl) (d : decode cc pc = .ok (.getfield i, 3)) (h : z_V q X nL Q k n G D (pc + 3) lv (.int (z_I D 101 a) :: st)) : z_V q X nL Q k n G D pc lv (.ref (z_w q a) :: st) := z_get o 1 1 rfl z_cw1 (by decide) hK rfl hw d h
theorem pt_1_1 (o : z_O q X cc nL own nm ret) {a i : Nat} {v : Int32} (hK : z_K G a = 101) (hw : Cond.fieldLink own i "FlashTrust$Flash" "writings" "I" ∈ lw_tbl) (d : decode cc pc = .ok (.putfield i, 3)) (h : z_V q X nL Q k n G (z_sI D 101 a v) (pc + 3) lv st) : z_V q X nL Q k n G D pc lv (.int v :: .ref (z_w q a) :: st) := z_putI o 1 1 rfl z_cw1 tyX1 tyX1_ok nmX1 (by decide) rfl hu_1 hK hw (Or.inl rfl) rfl rfl d h
theorem gt_1_2 (o : z_O q X cc nL own nm ret) {a i : Nat} (hK : z_K G a = 101) (hw : Cond.fieldLink own i "FlashTrust$Flash" "erasings" "I" ∈ lw_tbl) (d : decode cc pc = .ok (.getfield i, 3)) (h : z_V q X nL Q k n G D (pc + 3) lv (.int (z_I D 102 a) :: st)) : z_V q X nL Q k n G D pc lv (.ref (z_w q a) :: st) := z_get o 1 2 rfl z_cw1 (by decide) hK rfl hw d h
theorem pt_1_2 (o : z_O q X cc nL own nm ret) {a i : Nat} {v : Int32} (hK : z_K G a = 101) (hw : Cond.fieldLink own i "FlashTrust$Flash" "erasings" "I" ∈ lw_tbl) (d : decode cc pc = .ok (.putfield i, 3)) (h : z_V q X nL Q k n G (z_sI D 102 a v) (pc + 3) lv st) : z_V q X nL Q k n G D pc lv (.int v :: .ref (z_w q a) :: st) := z_putI o 1 2 rfl z_cw1 tyX1 tyX1_ok nmX1 (by decide) rfl hu_1 hK hw (Or.inl rfl) rfl rfl d h
theorem gt_1_3 (o : z_O q X cc nL own nm ret) {a i : Nat} (hK : z_K G a = 101) (hw : Cond.fieldLink own i "FlashTrust$Flash" "left" "I" ∈ lw_tbl) (d : decode cc pc = .ok (.getfield i, 3)) (h : z_V q X nL Q k n G D (pc + 3) lv (.int (z_I D 103 a) :: st)) : z_V q X nL Q k n G D pc lv (.ref (z_w q a) :: st) := z_get o 1 3 rfl z_cw1 (by decide) hK rfl hw d h
theorem pt_1_3 (o : z_O q X cc nL own nm ret) {a i : Nat} {v : Int32} (hK : z_K G a = 101) (hw : Cond.fieldLink own i "FlashTrust$Flash" "left" "I" ∈ lw_tbl) (d : decode cc pc = .ok (.putfield i, 3)) (h : z_V q X nL Q k n G (z_sI D 103 a v) (pc + 3) lv st) : z_V q X nL Q k n G D pc lv (.int v :: .ref (z_w q a) :: st) := z_putI o 1 3 rfl z_cw1 tyX1 tyX1_ok nmX1 (by decide) rfl hu_1 hK hw (Or.inl rfl) rfl rfl d h
theorem gt_1_4 (o : z_O q X cc nL own nm ret) {a i : Nat} (hK : z_K G a = 101) (hw : Cond.fieldLink own i "FlashTrust$Flash" "mask" "I" ∈ lw_tbl) (d : decode cc pc = .ok (.getfield i, 3)) (h : z_V q X nL Q k n G D (pc + 3) lv (.int (z_I D 104 a) :: st)) : z_V q X nL Q k n G D pc lv (.ref (z_w q a) :: st) := z_get o 1 4 rfl z_cw1 (by decide) hK rfl hw d h
theorem pt_1_4 (o : z_O q X cc nL own nm ret) {a i : Nat} {v : Int32} (hK : z_K G a = 101) (hw : Cond.fieldLink own i "FlashTrust$Flash" "mask" "I" ∈ lw_tbl) (d : decode cc pc = .ok (.putfield i, 3)) (h : z_V q X nL Q k n G (z_sI D 104 a v) (pc + 3) lv st) : z_V q X nL Q k n G D pc lv (.int v :: .ref (z_w q a) :: st) := z_putI o 1 4 rfl z_cw1 tyX1 tyX1_ok nmX1 (by decide) rfl hu_1 hK hw (Or.inl rfl) rfl rfl d h
theorem gt_1_5 (o : z_O q X cc nL own nm ret) {a i : Nat} (hK : z_K G a = 101) (hw : Cond.fieldLink own i "FlashTrust$Flash" "down" "Z" ∈ lw_tbl) (d : decode cc pc = .ok (.getfield i, 3)) (h : z_V q X nL Q k n G D (pc + 3) lv (.int (z_I D 105 a) :: st)) : z_V q X nL Q k n G D pc lv (.ref (z_w q a) :: st) := z_get o 1 5 rfl z_cw1 (by decide) hK rfl hw d h
theorem pt_1_5 (o : z_O q X cc nL own nm ret) {a i : Nat} {v : Int32} (hK : z_K G a = 101) (hw : Cond.fieldLink own i "FlashTrust$Flash" "down" "Z" ∈ lw_tbl) (hv : v = 0 ∨ v = 1) (d : decode cc pc = .ok (.putfield i, 3)) (h : z_V q X nL Q k n G (z_sI D 105 a v) (pc + 3) lv st) : z_V q X nL Q k n G D pc lv (.int v :: .ref (z_w q a) :: st) := z_putI o 1 5 rfl z_cw1 tyX1 tyX1_ok nmX1 (by decide) rfl hu_1 hK hw (Or.inl rfl) (z_nb hv) (z_fb hv) d h
theorem hu_2 : ((z_T 2).map Prod.snd).Nodup := by decide +kernel
theorem gt_2_0 (o : z_O q X cc nL own nm ret) {a i : Nat} (hK : z_K G a = 102) (hw : Cond.fieldLink own i "FlashTrust$Loader" "flash" "LFlashTrust$Flash;" ∈ lw_tbl) (hk : z_K G (z_R G 200 a) ≠ 0) (d : decode cc pc = .ok (.getfield i, 3)) (h : z_V q X nL Q k n G D (pc + 3) lv (.ref (z_w q (z_R G 200 a)) :: st)) : z_V q X nL Q k n G D pc lv (.ref (z_w q a) :: st) := z_getR o 2 0 200 rfl z_cw2 (by decide) hK rfl hw hk d h
theorem pt_2_0 (o : z_O q X cc nL own nm ret) {a i v : Nat} (hv : v ≠ 0) (hK : z_K G a = 102) (hw : Cond.fieldLink own i "FlashTrust$Loader" "flash" "LFlashTrust$Flash;" ∈ lw_tbl) (hnm : nm = "<init>") (hown : own = "FlashTrust$Loader") (d : decode cc pc = .ok (.putfield i, 3)) (h : z_V q X nL Q k n (z_sR G 200 a v) D (pc + 3) lv st) : z_V q X nL Q k n G D pc lv (.ref (z_w q v) :: .ref (z_w q a) :: st) := z_putR o 2 0 rfl z_cw2 tyX2 tyX2_ok nmX2 (by decide) rfl hu_2 hK hv hw (Or.inr ⟨rfl, hnm, hown.symm⟩) rfl rfl d h
theorem gt_2_1 (o : z_O q X cc nL own nm ret) {a i : Nat} (hK : z_K G a = 102) (hw : Cond.fieldLink own i "FlashTrust$Loader" "states" "LFlashTrust$States;" ∈ lw_tbl) (hk : z_K G (z_R G 201 a) ≠ 0) (d : decode cc pc = .ok (.getfield i, 3)) (h : z_V q X nL Q k n G D (pc + 3) lv (.ref (z_w q (z_R G 201 a)) :: st)) : z_V q X nL Q k n G D pc lv (.ref (z_w q a) :: st) := z_getR o 2 1 201 rfl z_cw2 (by decide) hK rfl hw hk d h
theorem pt_2_1 (o : z_O q X cc nL own nm ret) {a i v : Nat} (hv : v ≠ 0) (hK : z_K G a = 102) (hw : Cond.fieldLink own i "FlashTrust$Loader" "states" "LFlashTrust$States;" ∈ lw_tbl) (hnm : nm = "<init>") (hown : own = "FlashTrust$Loader") (d : decode cc pc = .ok (.putfield i, 3)) (h : z_V q X nL Q k n (z_sR G 201 a v) D (pc + 3) lv st) : z_V q X nL Q k n G D pc lv (.ref (z_w q v) :: .ref (z_w q a) :: st) := z_putR o 2 1 rfl z_cw2 tyX2 tyX2_ok nmX2 (by decide) rfl hu_2 hK hv hw (Or.inr ⟨rfl, hnm, hown.symm⟩) rfl rfl d h
theorem gt_2_2 (o : z_O q X cc nL own nm ret) {a i : Nat} (hK : z_K G a = 102) (hw : Cond.fieldLink own i "FlashTrust$Loader" "running" "I" ∈ lw_tbl) (d : decode cc pc = .ok (.getfield i, 3)) (h : z_V q X nL Q k n G D (pc + 3) lv (.int (z_I D 202 a) :: st)) : z_V q X nL Q k n G D pc lv (.ref (z_w q a) :: st) := z_get o 2 2 rfl z_cw2 (by decide) hK rfl hw d h
theorem pt_2_2 (o : z_O q X cc nL own nm ret) {a i : Nat} {v : Int32} (hK : z_K G a = 102) (hw : Cond.fieldLink own i "FlashTrust$Loader" "running" "I" ∈ lw_tbl) (d : decode cc pc = .ok (.putfield i, 3)) (h : z_V q X nL Q k n G (z_sI D 202 a v) (pc + 3) lv st) : z_V q X nL Q k n G D pc lv (.int v :: .ref (z_w q a) :: st) := z_putI o 2 2 rfl z_cw2 tyX2 tyX2_ok nmX2 (by decide) rfl hu_2 hK hw (Or.inl rfl) rfl rfl d h
theorem gt_2_3 (o : z_O q X cc nL own nm ret) {a i : Nat} (hK : z_K G a = 102) (hw : Cond.fieldLink own i "FlashTrust$Loader" "onTrial" "Z" ∈ lw_tbl) (d : decode cc pc = .ok (.getfield i, 3)) (h : z_V q X nL Q k n G D (pc + 3) lv (.int (z_I D 203 a) :: st)) : z_V q X nL Q k n G D pc lv (.ref (z_w q a) :: st) := z_get o 2 3 rfl z_cw2 (by decide) hK rfl hw d h
theorem pt_2_3 (o : z_O q X cc nL own nm ret) {a i : Nat} {v : Int32} (hK : z_K G a = 102) (hw : Cond.fieldLink own i "FlashTrust$Loader" "onTrial" "Z" ∈ lw_tbl) (hv : v = 0 ∨ v = 1) (d : decode cc pc = .ok (.putfield i, 3)) (h : z_V q X nL Q k n G (z_sI D 203 a v) (pc + 3) lv st) : z_V q X nL Q k n G D pc lv (.int v :: .ref (z_w q a) :: st) := z_putI o 2 3 rfl z_cw2 tyX2 tyX2_ok nmX2 (by decide) rfl hu_2 hK hw (Or.inl rfl) (z_nb hv) (z_fb hv) d h
theorem hu_3 : ((z_T 3).map Prod.snd).Nodup := by decide +kernel
theorem gt_3_0 (o : z_O q X cc nL own nm ret) {a i : Nat} (hK : z_K G a = 103) (hw : Cond.fieldLink own i "FlashTrust$Maker" "signatures" "LFlashTrust$Signatures;" ∈ lw_tbl) (hk : z_K G (z_R G 300 a) ≠ 0) (d : decode cc pc = .ok (.getfield i, 3)) (h : z_V q X nL Q k n G D (pc + 3) lv (.ref (z_w q (z_R G 300 a)) :: st)) : z_V q X nL Q k n G D pc lv (.ref (z_w q a) :: st) := z_getR o 3 0 300 rfl z_cw3 (by decide) hK rfl hw hk d h
theorem pt_3_0 (o : z_O q X cc nL own nm ret) {a i v : Nat} (hv : v ≠ 0) (hK : z_K G a = 103) (hw : Cond.fieldLink own i "FlashTrust$Maker" "signatures" "LFlashTrust$Signatures;" ∈ lw_tbl) (hnm : nm = "<init>") (hown : own = "FlashTrust$Maker") (d : decode cc pc = .ok (.putfield i, 3)) (h : z_V q X nL Q k n (z_sR G 300 a v) D (pc + 3) lv st) : z_V q X nL Q k n G D pc lv (.ref (z_w q v) :: .ref (z_w q a) :: st) := z_putR o 3 0 rfl z_cw3 tyX3 tyX3_ok nmX3 (by decide) rfl hu_3 hK hv hw (Or.inr ⟨rfl, hnm, hown.symm⟩) rfl rfl d h
theorem gt_3_1 (o : z_O q X cc nL own nm ret) {a i : Nat} (hK : z_K G a = 103) (hw : Cond.fieldLink own i "FlashTrust$Maker" "roleKeys" "[I" ∈ lw_tbl) (hk : z_K G (z_R G 301 a) ≠ 0) (d : decode cc pc = .ok (.getfield i, 3)) (h : z_V q X nL Q k n G D (pc + 3) lv (.ref (z_w q (z_R G 301 a)) :: st)) : z_V q X nL Q k n G D pc lv (.ref (z_w q a) :: st) := z_getR o 3 1 301 rfl z_cw3 (by decide) hK rfl hw hk d h
theorem pt_3_1 (o : z_O q X cc nL own nm ret) {a i v : Nat} (hv : v ≠ 0) (hK : z_K G a = 103) (hw : Cond.fieldLink own i "FlashTrust$Maker" "roleKeys" "[I" ∈ lw_tbl) (hnm : nm = "<init>") (hown : own = "FlashTrust$Maker") (d : decode cc pc = .ok (.putfield i, 3)) (h : z_V q X nL Q k n (z_sR G 301 a v) D (pc + 3) lv st) : z_V q X nL Q k n G D pc lv (.ref (z_w q v) :: .ref (z_w q a) :: st) := z_putR o 3 1 rfl z_cw3 tyX3 tyX3_ok nmX3 (by decide) rfl hu_3 hK hv hw (Or.inr ⟨rfl, hnm, hown.symm⟩) rfl rfl d h
theorem gt_3_2 (o : z_O q X cc nL own nm ret) {a i : Nat} (hK : z_K G a = 103) (hw : Cond.fieldLink own i "FlashTrust$Maker" "thresholds" "[I" ∈ lw_tbl) (hk : z_K G (z_R G 302 a) ≠ 0) (d : decode cc pc = .ok (.getfield i, 3)) (h : z_V q X nL Q k n G D (pc + 3) lv (.ref (z_w q (z_R G 302 a)) :: st)) : z_V q X nL Q k n G D pc lv (.ref (z_w q a) :: st) := z_getR o 3 2 302 rfl z_cw3 (by decide) hK rfl hw hk d h
theorem pt_3_2 (o : z_O q X cc nL own nm ret) {a i v : Nat} (hv : v ≠ 0) (hK : z_K G a = 103) (hw : Cond.fieldLink own i "FlashTrust$Maker" "thresholds" "[I" ∈ lw_tbl) (hnm : nm = "<init>") (hown : own = "FlashTrust$Maker") (d : decode cc pc = .ok (.putfield i, 3)) (h : z_V q X nL Q k n (z_sR G 302 a v) D (pc + 3) lv st) : z_V q X nL Q k n G D pc lv (.ref (z_w q v) :: .ref (z_w q a) :: st) := z_putR o 3 2 rfl z_cw3 tyX3 tyX3_ok nmX3 (by decide) rfl hu_3 hK hv hw (Or.inr ⟨rfl, hnm, hown.symm⟩) rfl rfl d h
theorem gt_3_3 (o : z_O q X cc nL own nm ret) {a i : Nat} (hK : z_K G a = 103) (hw : Cond.fieldLink own i "FlashTrust$Maker" "images" "I" ∈ lw_tbl) (d : decode cc pc = .ok (.getfield i, 3)) (h : z_V q X nL Q k n G D (pc + 3) lv (.int (z_I D 303 a) :: st)) : z_V q X nL Q k n G D pc lv (.ref (z_w q a) :: st) := z_get o 3 3 rfl z_cw3 (by decide) hK rfl hw d h
theorem pt_3_3 (o : z_O q X cc nL own nm ret) {a i : Nat} {v : Int32} (hK : z_K G a = 103) (hw : Cond.fieldLink own i "FlashTrust$Maker" "images" "I" ∈ lw_tbl) (d : decode cc pc = .ok (.putfield i, 3)) (h : z_V q X nL Q k n G (z_sI D 303 a v) (pc + 3) lv st) : z_V q X nL Q k n G D pc lv (.int v :: .ref (z_w q a) :: st) := z_putI o 3 3 rfl z_cw3 tyX3 tyX3_ok nmX3 (by decide) rfl hu_3 hK hw (Or.inl rfl) rfl rfl d h
theorem gt_3_4 (o : z_O q X cc nL own nm ret) {a i : Nat} (hK : z_K G a = 103) (hw : Cond.fieldLink own i "FlashTrust$Maker" "versions" "[I" ∈ lw_tbl) (hk : z_K G (z_R G 304 a) ≠ 0) (d : decode cc pc = .ok (.getfield i, 3)) (h : z_V q X nL Q k n G D (pc + 3) lv (.ref (z_w q (z_R G 304 a)) :: st)) : z_V q X nL Q k n G D pc lv (.ref (z_w q a) :: st) := z_getR o 3 4 304 rfl z_cw3 (by decide) hK rfl hw hk d h
theorem pt_3_4 (o : z_O q X cc nL own nm ret) {a i v : Nat} (hv : v ≠ 0) (hK : z_K G a = 103) (hw : Cond.fieldLink own i "FlashTrust$Maker" "versions" "[I" ∈ lw_tbl) (hnm : nm = "<init>") (hown : own = "FlashTrust$Maker") (d : decode cc pc = .ok (.putfield i, 3)) (h : z_V q X nL Q k n (z_sR G 304 a v) D (pc + 3) lv st) : z_V q X nL Q k n G D pc lv (.ref (z_w q v) :: .ref (z_w q a) :: st) := z_putR o 3 4 rfl z_cw3 tyX3 tyX3_ok nmX3 (by decide) rfl hu_3 hK hv hw (Or.inr ⟨rfl, hnm, hown.symm⟩) rfl rfl d h
theorem gt_3_5 (o : z_O q X cc nL own nm ret) {a i : Nat} (hK : z_K G a = 103) (hw : Cond.fieldLink own i "FlashTrust$Maker" "lengths" "[I" ∈ lw_tbl) (hk : z_K G (z_R G 305 a) ≠ 0) (d : decode cc pc = .ok (.getfield i, 3)) (h : z_V q X nL Q k n G D (pc + 3) lv (.ref (z_w q (z_R G 305 a)) :: st)) : z_V q X nL Q k n G D pc lv (.ref (z_w q a) :: st) := z_getR o 3 5 305 rfl z_cw3 (by decide) hK rfl hw hk d h
theorem pt_3_5 (o : z_O q X cc nL own nm ret) {a i v : Nat} (hv : v ≠ 0) (hK : z_K G a = 103) (hw : Cond.fieldLink own i "FlashTrust$Maker" "lengths" "[I" ∈ lw_tbl) (hnm : nm = "<init>") (hown : own = "FlashTrust$Maker") (d : decode cc pc = .ok (.putfield i, 3)) (h : z_V q X nL Q k n (z_sR G 305 a v) D (pc + 3) lv st) : z_V q X nL Q k n G D pc lv (.ref (z_w q v) :: .ref (z_w q a) :: st) := z_putR o 3 5 rfl z_cw3 tyX3 tyX3_ok nmX3 (by decide) rfl hu_3 hK hv hw (Or.inr ⟨rfl, hnm, hown.symm⟩) rfl rfl d h
theorem gt_3_6 (o : z_O q X cc nL own nm ret) {a i : Nat} (hK : z_K G a = 103) (hw : Cond.fieldLink own i "FlashTrust$Maker" "seeds" "[I" ∈ lw_tbl) (hk : z_K G (z_R G 306 a) ≠ 0) (d : decode cc pc = .ok (.getfield i, 3)) (h : z_V q X nL Q k n G D (pc + 3) lv (.ref (z_w q (z_R G 306 a)) :: st)) : z_V q X nL Q k n G D pc lv (.ref (z_w q a) :: st) := z_getR o 3 6 306 rfl z_cw3 (by decide) hK rfl hw hk d h
theorem pt_3_6 (o : z_O q X cc nL own nm ret) {a i v : Nat} (hv : v ≠ 0) (hK : z_K G a = 103) (hw : Cond.fieldLink own i "FlashTrust$Maker" "seeds" "[I" ∈ lw_tbl) (hnm : nm = "<init>") (hown : own = "FlashTrust$Maker") (d : decode cc pc = .ok (.putfield i, 3)) (h : z_V q X nL Q k n (z_sR G 306 a v) D (pc + 3) lv st) : z_V q X nL Q k n G D pc lv (.ref (z_w q v) :: .ref (z_w q a) :: st) := z_putR o 3 6 rfl z_cw3 tyX3 tyX3_ok nmX3 (by decide) rfl hu_3 hK hv hw (Or.inr ⟨rfl, hnm, hown.symm⟩) rfl rfl d h
theorem gt_3_7 (o : z_O q X cc nL own nm ret) {a i : Nat} (hK : z_K G a = 103) (hw : Cond.fieldLink own i "FlashTrust$Maker" "hashes" "[J" ∈ lw_tbl) (hk : z_K G (z_R G 307 a) ≠ 0) (d : decode cc pc = .ok (.getfield i, 3)) (h : z_V q X nL Q k n G D (pc + 3) lv (.ref (z_w q (z_R G 307 a)) :: st)) : z_V q X nL Q k n G D pc lv (.ref (z_w q a) :: st) := z_getR o 3 7 307 rfl z_cw3 (by decide) hK rfl hw hk d h
theorem pt_3_7 (o : z_O q X cc nL own nm ret) {a i v : Nat} (hv : v ≠ 0) (hK : z_K G a = 103) (hw : Cond.fieldLink own i "FlashTrust$Maker" "hashes" "[J" ∈ lw_tbl) (hnm : nm = "<init>") (hown : own = "FlashTrust$Maker") (d : decode cc pc = .ok (.putfield i, 3)) (h : z_V q X nL Q k n (z_sR G 307 a v) D (pc + 3) lv st) : z_V q X nL Q k n G D pc lv (.ref (z_w q v) :: .ref (z_w q a) :: st) := z_putR o 3 7 rfl z_cw3 tyX3 tyX3_ok nmX3 (by decide) rfl hu_3 hK hv hw (Or.inr ⟨rfl, hnm, hown.symm⟩) rfl rfl d h
theorem gt_3_8 (o : z_O q X cc nL own nm ret) {a i : Nat} (hK : z_K G a = 103) (hw : Cond.fieldLink own i "FlashTrust$Maker" "program" "LFlashTrust$Row;" ∈ lw_tbl) (hk : z_K G (z_R G 308 a) ≠ 0) (d : decode cc pc = .ok (.getfield i, 3)) (h : z_V q X nL Q k n G D (pc + 3) lv (.ref (z_w q (z_R G 308 a)) :: st)) : z_V q X nL Q k n G D pc lv (.ref (z_w q a) :: st) := z_getR o 3 8 308 rfl z_cw3 (by decide) hK rfl hw hk d h
theorem pt_3_8 (o : z_O q X cc nL own nm ret) {a i v : Nat} (hv : v ≠ 0) (hK : z_K G a = 103) (hw : Cond.fieldLink own i "FlashTrust$Maker" "program" "LFlashTrust$Row;" ∈ lw_tbl) (hnm : nm = "<init>") (hown : own = "FlashTrust$Maker") (d : decode cc pc = .ok (.putfield i, 3)) (h : z_V q X nL Q k n (z_sR G 308 a v) D (pc + 3) lv st) : z_V q X nL Q k n G D pc lv (.ref (z_w q v) :: .ref (z_w q a) :: st) := z_putR o 3 8 rfl z_cw3 tyX3 tyX3_ok nmX3 (by decide) rfl hu_3 hK hv hw (Or.inr ⟨rfl, hnm, hown.symm⟩) rfl rfl d h
theorem gt_3_9 (o : z_O q X cc nL own nm ret) {a i : Nat} (hK : z_K G a = 103) (hw : Cond.fieldLink own i "FlashTrust$Maker" "body" "LFlashTrust$Row;" ∈ lw_tbl) (hk : z_K G (z_R G 309 a) ≠ 0) (d : decode cc pc = .ok (.getfield i, 3)) (h : z_V q X nL Q k n G D (pc + 3) lv (.ref (z_w q (z_R G 309 a)) :: st)) : z_V q X nL Q k n G D pc lv (.ref (z_w q a) :: st) := z_getR o 3 9 309 rfl z_cw3 (by decide) hK rfl hw hk d h
theorem pt_3_9 (o : z_O q X cc nL own nm ret) {a i v : Nat} (hv : v ≠ 0) (hK : z_K G a = 103) (hw : Cond.fieldLink own i "FlashTrust$Maker" "body" "LFlashTrust$Row;" ∈ lw_tbl) (hnm : nm = "<init>") (hown : own = "FlashTrust$Maker") (d : decode cc pc = .ok (.putfield i, 3)) (h : z_V q X nL Q k n (z_sR G 309 a v) D (pc + 3) lv st) : z_V q X nL Q k n G D pc lv (.ref (z_w q v) :: .ref (z_w q a) :: st) := z_putR o 3 9 rfl z_cw3 tyX3 tyX3_ok nmX3 (by decide) rfl hu_3 hK hv hw (Or.inr ⟨rfl, hnm, hown.symm⟩) rfl rfl d h
theorem gt_3_10 (o : z_O q X cc nL own nm ret) {a i : Nat} (hK : z_K G a = 103) (hw : Cond.fieldLink own i "FlashTrust$Maker" "draftRole" "I" ∈ lw_tbl) (d : decode cc pc = .ok (.getfield i, 3)) (h : z_V q X nL Q k n G D (pc + 3) lv (.int (z_I D 310 a) :: st)) : z_V q X nL Q k n G D pc lv (.ref (z_w q a) :: st) := z_get o 3 10 rfl z_cw3 (by decide) hK rfl hw d h
theorem pt_3_10 (o : z_O q X cc nL own nm ret) {a i : Nat} {v : Int32} (hK : z_K G a = 103) (hw : Cond.fieldLink own i "FlashTrust$Maker" "draftRole" "I" ∈ lw_tbl) (d : decode cc pc = .ok (.putfield i, 3)) (h : z_V q X nL Q k n G (z_sI D 310 a v) (pc + 3) lv st) : z_V q X nL Q k n G D pc lv (.int v :: .ref (z_w q a) :: st) := z_putI o 3 10 rfl z_cw3 tyX3 tyX3_ok nmX3 (by decide) rfl hu_3 hK hw (Or.inl rfl) rfl rfl d h
theorem gt_3_11 (o : z_O q X cc nL own nm ret) {a i : Nat} (hK : z_K G a = 103) (hw : Cond.fieldLink own i "FlashTrust$Maker" "draftKeys" "I" ∈ lw_tbl) (d : decode cc pc = .ok (.getfield i, 3)) (h : z_V q X nL Q k n G D (pc + 3) lv (.int (z_I D 311 a) :: st)) : z_V q X nL Q k n G D pc lv (.ref (z_w q a) :: st) := z_get o 3 11 rfl z_cw3 (by decide) hK rfl hw d h
theorem pt_3_11 (o : z_O q X cc nL own nm ret) {a i : Nat} {v : Int32} (hK : z_K G a = 103) (hw : Cond.fieldLink own i "FlashTrust$Maker" "draftKeys" "I" ∈ lw_tbl) (d : decode cc pc = .ok (.putfield i, 3)) (h : z_V q X nL Q k n G (z_sI D 311 a v) (pc + 3) lv st) : z_V q X nL Q k n G D pc lv (.int v :: .ref (z_w q a) :: st) := z_putI o 3 11 rfl z_cw3 tyX3 tyX3_ok nmX3 (by decide) rfl hu_3 hK hw (Or.inl rfl) rfl rfl d h
theorem gt_3_12 (o : z_O q X cc nL own nm ret) {a i : Nat} (hK : z_K G a = 103) (hw : Cond.fieldLink own i "FlashTrust$Maker" "lastVersions" "[I" ∈ lw_tbl) (hk : z_K G (z_R G 312 a) ≠ 0) (d : decode cc pc = .ok (.getfield i, 3)) (h : z_V q X nL Q k n G D (pc + 3) lv (.ref (z_w q (z_R G 312 a)) :: st)) : z_V q X nL Q k n G D pc lv (.ref (z_w q a) :: st) := z_getR o 3 12 312 rfl z_cw3 (by decide) hK rfl hw hk d h
theorem pt_3_12 (o : z_O q X cc nL own nm ret) {a i v : Nat} (hv : v ≠ 0) (hK : z_K G a = 103) (hw : Cond.fieldLink own i "FlashTrust$Maker" "lastVersions" "[I" ∈ lw_tbl) (hnm : nm = "<init>") (hown : own = "FlashTrust$Maker") (d : decode cc pc = .ok (.putfield i, 3)) (h : z_V q X nL Q k n (z_sR G 312 a v) D (pc + 3) lv st) : z_V q X nL Q k n G D pc lv (.ref (z_w q v) :: .ref (z_w q a) :: st) := z_putR o 3 12 rfl z_cw3 tyX3 tyX3_ok nmX3 (by decide) rfl hu_3 hK hv hw (Or.inr ⟨rfl, hnm, hown.symm⟩) rfl rfl d h
theorem gt_3_13 (o : z_O q X cc nL own nm ret) {a i : Nat} (hK : z_K G a = 103) (hw : Cond.fieldLink own i "FlashTrust$Maker" "lastHashes" "[J" ∈ lw_tbl) (hk : z_K G (z_R G 313 a) ≠ 0) (d : decode cc pc = .ok (.getfield i, 3)) (h : z_V q X nL Q k n G D (pc + 3) lv (.ref (z_w q (z_R G 313 a)) :: st)) : z_V q X nL Q k n G D pc lv (.ref (z_w q a) :: st) := z_getR o 3 13 313 rfl z_cw3 (by decide) hK rfl hw hk d h
theorem pt_3_13 (o : z_O q X cc nL own nm ret) {a i v : Nat} (hv : v ≠ 0) (hK : z_K G a = 103) (hw : Cond.fieldLink own i "FlashTrust$Maker" "lastHashes" "[J" ∈ lw_tbl) (hnm : nm = "<init>") (hown : own = "FlashTrust$Maker") (d : decode cc pc = .ok (.putfield i, 3)) (h : z_V q X nL Q k n (z_sR G 313 a v) D (pc + 3) lv st) : z_V q X nL Q k n G D pc lv (.ref (z_w q v) :: .ref (z_w q a) :: st) := z_putR o 3 13 rfl z_cw3 tyX3 tyX3_ok nmX3 (by decide) rfl hu_3 hK hv hw (Or.inr ⟨rfl, hnm, hown.symm⟩) rfl rfl d h
theorem hu_4 : ((z_T 4).map Prod.snd).Nodup := by decide +kernel
theorem gt_4_0 (o : z_O q X cc nL own nm ret) {a i : Nat} (hK : z_K G a = 104) (hw : Cond.fieldLink own i "FlashTrust$Paper" "bytes" "LFlashTrust$Row;" ∈ lw_tbl) (hk : z_K G (z_R G 400 a) ≠ 0) (d : decode cc pc = .ok (.getfield i, 3)) (h : z_V q X nL Q k n G D (pc + 3) lv (.ref (z_w q (z_R G 400 a)) :: st)) : z_V q X nL Q k n G D pc lv (.ref (z_w q a) :: st) := z_getR o 4 0 400 rfl z_cw4 (by decide) hK rfl hw hk d h
theorem pt_4_0 (o : z_O q X cc nL own nm ret) {a i v : Nat} (hv : v ≠ 0) (hK : z_K G a = 104) (hw : Cond.fieldLink own i "FlashTrust$Paper" "bytes" "LFlashTrust$Row;" ∈ lw_tbl) (hnm : nm = "<init>") (hown : own = "FlashTrust$Paper") (d : decode cc pc = .ok (.putfield i, 3)) (h : z_V q X nL Q k n (z_sR G 400 a v) D (pc + 3) lv st) : z_V q X nL Q k n G D pc lv (.ref (z_w q v) :: .ref (z_w q a) :: st) := z_putR o 4 0 rfl z_cw4 tyX4 tyX4_ok nmX4 (by decide) rfl hu_4 hK hv hw (Or.inr ⟨rfl, hnm, hown.symm⟩) rfl rfl d h
theorem gt_4_1 (o : z_O q X cc nL own nm ret) {a i : Nat} (hK : z_K G a = 104) (hw : Cond.fieldLink own i "FlashTrust$Paper" "role" "I" ∈ lw_tbl) (d : decode cc pc = .ok (.getfield i, 3)) (h : z_V q X nL Q k n G D (pc + 3) lv (.int (z_I D 401 a) :: st)) : z_V q X nL Q k n G D pc lv (.ref (z_w q a) :: st) := z_get o 4 1 rfl z_cw4 (by decide) hK rfl hw d h
theorem pt_4_1 (o : z_O q X cc nL own nm ret) {a i : Nat} {v : Int32} (hK : z_K G a = 104) (hw : Cond.fieldLink own i "FlashTrust$Paper" "role" "I" ∈ lw_tbl) (d : decode cc pc = .ok (.putfield i, 3)) (h : z_V q X nL Q k n G (z_sI D 401 a v) (pc + 3) lv st) : z_V q X nL Q k n G D pc lv (.int v :: .ref (z_w q a) :: st) := z_putI o 4 1 rfl z_cw4 tyX4 tyX4_ok nmX4 (by decide) rfl hu_4 hK hw (Or.inl rfl) rfl rfl d h
theorem gt_4_2 (o : z_O q X cc nL own nm ret) {a i : Nat} (hK : z_K G a = 104) (hw : Cond.fieldLink own i "FlashTrust$Paper" "version" "I" ∈ lw_tbl) (d : decode cc pc = .ok (.getfield i, 3)) (h : z_V q X nL Q k n G D (pc + 3) lv (.int (z_I D 402 a) :: st)) : z_V q X nL Q k n G D pc lv (.ref (z_w q a) :: st) := z_get o 4 2 rfl z_cw4 (by decide) hK rfl hw d h
theorem pt_4_2 (o : z_O q X cc nL own nm ret) {a i : Nat} {v : Int32} (hK : z_K G a = 104) (hw : Cond.fieldLink own i "FlashTrust$Paper" "version" "I" ∈ lw_tbl) (d : decode cc pc = .ok (.putfield i, 3)) (h : z_V q X nL Q k n G (z_sI D 402 a v) (pc + 3) lv st) : z_V q X nL Q k n G D pc lv (.int v :: .ref (z_w q a) :: st) := z_putI o 4 2 rfl z_cw4 tyX4 tyX4_ok nmX4 (by decide) rfl hu_4 hK hw (Or.inl rfl) rfl rfl d h
theorem gt_4_3 (o : z_O q X cc nL own nm ret) {a i : Nat} (hK : z_K G a = 104) (hw : Cond.fieldLink own i "FlashTrust$Paper" "end" "J" ∈ lw_tbl) (d : decode cc pc = .ok (.getfield i, 3)) (h : z_V q X nL Q k n G D (pc + 3) lv (.long (z_J D 403 a) :: st)) : z_V q X nL Q k n G D pc lv (.ref (z_w q a) :: st) := z_get o 4 3 rfl z_cw4 (by decide) hK rfl hw d h
theorem pt_4_3 (o : z_O q X cc nL own nm ret) {a i : Nat} {v : Int64} (hK : z_K G a = 104) (hw : Cond.fieldLink own i "FlashTrust$Paper" "end" "J" ∈ lw_tbl) (d : decode cc pc = .ok (.putfield i, 3)) (h : z_V q X nL Q k n G (z_sJ D 403 a v) (pc + 3) lv st) : z_V q X nL Q k n G D pc lv (.long v :: .ref (z_w q a) :: st) := z_putJ o 4 3 rfl z_cw4 tyX4 tyX4_ok nmX4 (by decide) rfl hu_4 hK hw (Or.inl rfl) rfl rfl d h
theorem gt_4_4 (o : z_O q X cc nL own nm ret) {a i : Nat} (hK : z_K G a = 104) (hw : Cond.fieldLink own i "FlashTrust$Paper" "keys" "I" ∈ lw_tbl) (d : decode cc pc = .ok (.getfield i, 3)) (h : z_V q X nL Q k n G D (pc + 3) lv (.int (z_I D 404 a) :: st)) : z_V q X nL Q k n G D pc lv (.ref (z_w q a) :: st) := z_get o 4 4 rfl z_cw4 (by decide) hK rfl hw d h
theorem pt_4_4 (o : z_O q X cc nL own nm ret) {a i : Nat} {v : Int32} (hK : z_K G a = 104) (hw : Cond.fieldLink own i "FlashTrust$Paper" "keys" "I" ∈ lw_tbl) (d : decode cc pc = .ok (.putfield i, 3)) (h : z_V q X nL Q k n G (z_sI D 404 a v) (pc + 3) lv st) : z_V q X nL Q k n G D pc lv (.int v :: .ref (z_w q a) :: st) := z_putI o 4 4 rfl z_cw4 tyX4 tyX4_ok nmX4 (by decide) rfl hu_4 hK hw (Or.inl rfl) rfl rfl d h
theorem gt_4_5 (o : z_O q X cc nL own nm ret) {a i : Nat} (hK : z_K G a = 104) (hw : Cond.fieldLink own i "FlashTrust$Paper" "bodyHash" "J" ∈ lw_tbl) (d : decode cc pc = .ok (.getfield i, 3)) (h : z_V q X nL Q k n G D (pc + 3) lv (.long (z_J D 405 a) :: st)) : z_V q X nL Q k n G D pc lv (.ref (z_w q a) :: st) := z_get o 4 5 rfl z_cw4 (by decide) hK rfl hw d h
theorem pt_4_5 (o : z_O q X cc nL own nm ret) {a i : Nat} {v : Int64} (hK : z_K G a = 104) (hw : Cond.fieldLink own i "FlashTrust$Paper" "bodyHash" "J" ∈ lw_tbl) (d : decode cc pc = .ok (.putfield i, 3)) (h : z_V q X nL Q k n G (z_sJ D 405 a v) (pc + 3) lv st) : z_V q X nL Q k n G D pc lv (.long v :: .ref (z_w q a) :: st) := z_putJ o 4 5 rfl z_cw4 tyX4 tyX4_ok nmX4 (by decide) rfl hu_4 hK hw (Or.inl rfl) rfl rfl d h
theorem gt_4_6 (o : z_O q X cc nL own nm ret) {a i : Nat} (hK : z_K G a = 104) (hw : Cond.fieldLink own i "FlashTrust$Paper" "bodyLength" "I" ∈ lw_tbl) (d : decode cc pc = .ok (.getfield i, 3)) (h : z_V q X nL Q k n G D (pc + 3) lv (.int (z_I D 406 a) :: st)) : z_V q X nL Q k n G D pc lv (.ref (z_w q a) :: st) := z_get o 4 6 rfl z_cw4 (by decide) hK rfl hw d h
theorem pt_4_6 (o : z_O q X cc nL own nm ret) {a i : Nat} {v : Int32} (hK : z_K G a = 104) (hw : Cond.fieldLink own i "FlashTrust$Paper" "bodyLength" "I" ∈ lw_tbl) (d : decode cc pc = .ok (.putfield i, 3)) (h : z_V q X nL Q k n G (z_sI D 406 a v) (pc + 3) lv st) : z_V q X nL Q k n G D pc lv (.int v :: .ref (z_w q a) :: st) := z_putI o 4 6 rfl z_cw4 tyX4 tyX4_ok nmX4 (by decide) rfl hu_4 hK hw (Or.inl rfl) rfl rfl d h
theorem gt_4_7 (o : z_O q X cc nL own nm ret) {a i : Nat} (hK : z_K G a = 104) (hw : Cond.fieldLink own i "FlashTrust$Paper" "roleKeys" "[I" ∈ lw_tbl) (hk : z_K G (z_R G 407 a) ≠ 0) (d : decode cc pc = .ok (.getfield i, 3)) (h : z_V q X nL Q k n G D (pc + 3) lv (.ref (z_w q (z_R G 407 a)) :: st)) : z_V q X nL Q k n G D pc lv (.ref (z_w q a) :: st) := z_getR o 4 7 407 rfl z_cw4 (by decide) hK rfl hw hk d h
theorem pt_4_7 (o : z_O q X cc nL own nm ret) {a i v : Nat} (hv : v ≠ 0) (hK : z_K G a = 104) (hw : Cond.fieldLink own i "FlashTrust$Paper" "roleKeys" "[I" ∈ lw_tbl) (hnm : nm = "<init>") (hown : own = "FlashTrust$Paper") (d : decode cc pc = .ok (.putfield i, 3)) (h : z_V q X nL Q k n (z_sR G 407 a v) D (pc + 3) lv st) : z_V q X nL Q k n G D pc lv (.ref (z_w q v) :: .ref (z_w q a) :: st) := z_putR o 4 7 rfl z_cw4 tyX4 tyX4_ok nmX4 (by decide) rfl hu_4 hK hv hw (Or.inr ⟨rfl, hnm, hown.symm⟩) rfl rfl d h
theorem gt_4_8 (o : z_O q X cc nL own nm ret) {a i : Nat} (hK : z_K G a = 104) (hw : Cond.fieldLink own i "FlashTrust$Paper" "thresholds" "[I" ∈ lw_tbl) (hk : z_K G (z_R G 408 a) ≠ 0) (d : decode cc pc = .ok (.getfield i, 3)) (h : z_V q X nL Q k n G D (pc + 3) lv (.ref (z_w q (z_R G 408 a)) :: st)) : z_V q X nL Q k n G D pc lv (.ref (z_w q a) :: st) := z_getR o 4 8 408 rfl z_cw4 (by decide) hK rfl hw hk d h
theorem pt_4_8 (o : z_O q X cc nL own nm ret) {a i v : Nat} (hv : v ≠ 0) (hK : z_K G a = 104) (hw : Cond.fieldLink own i "FlashTrust$Paper" "thresholds" "[I" ∈ lw_tbl) (hnm : nm = "<init>") (hown : own = "FlashTrust$Paper") (d : decode cc pc = .ok (.putfield i, 3)) (h : z_V q X nL Q k n (z_sR G 408 a v) D (pc + 3) lv st) : z_V q X nL Q k n G D pc lv (.ref (z_w q v) :: .ref (z_w q a) :: st) := z_putR o 4 8 rfl z_cw4 tyX4 tyX4_ok nmX4 (by decide) rfl hu_4 hK hv hw (Or.inr ⟨rfl, hnm, hown.symm⟩) rfl rfl d h
theorem gt_4_9 (o : z_O q X cc nL own nm ret) {a i : Nat} (hK : z_K G a = 104) (hw : Cond.fieldLink own i "FlashTrust$Paper" "toldVersion" "I" ∈ lw_tbl) (d : decode cc pc = .ok (.getfield i, 3)) (h : z_V q X nL Q k n G D (pc + 3) lv (.int (z_I D 409 a) :: st)) : z_V q X nL Q k n G D pc lv (.ref (z_w q a) :: st) := z_get o 4 9 rfl z_cw4 (by decide) hK rfl hw d h
theorem pt_4_9 (o : z_O q X cc nL own nm ret) {a i : Nat} {v : Int32} (hK : z_K G a = 104) (hw : Cond.fieldLink own i "FlashTrust$Paper" "toldVersion" "I" ∈ lw_tbl) (d : decode cc pc = .ok (.putfield i, 3)) (h : z_V q X nL Q k n G (z_sI D 409 a v) (pc + 3) lv st) : z_V q X nL Q k n G D pc lv (.int v :: .ref (z_w q a) :: st) := z_putI o 4 9 rfl z_cw4 tyX4 tyX4_ok nmX4 (by decide) rfl hu_4 hK hw (Or.inl rfl) rfl rfl d h
theorem gt_4_10 (o : z_O q X cc nL own nm ret) {a i : Nat} (hK : z_K G a = 104) (hw : Cond.fieldLink own i "FlashTrust$Paper" "toldHash" "J" ∈ lw_tbl) (d : decode cc pc = .ok (.getfield i, 3)) (h : z_V q X nL Q k n G D (pc + 3) lv (.long (z_J D 410 a) :: st)) : z_V q X nL Q k n G D pc lv (.ref (z_w q a) :: st) := z_get o 4 10 rfl z_cw4 (by decide) hK rfl hw d h
theorem pt_4_10 (o : z_O q X cc nL own nm ret) {a i : Nat} {v : Int64} (hK : z_K G a = 104) (hw : Cond.fieldLink own i "FlashTrust$Paper" "toldHash" "J" ∈ lw_tbl) (d : decode cc pc = .ok (.putfield i, 3)) (h : z_V q X nL Q k n G (z_sJ D 410 a v) (pc + 3) lv st) : z_V q X nL Q k n G D pc lv (.long v :: .ref (z_w q a) :: st) := z_putJ o 4 10 rfl z_cw4 tyX4 tyX4_ok nmX4 (by decide) rfl hu_4 hK hw (Or.inl rfl) rfl rfl d h
theorem gt_4_11 (o : z_O q X cc nL own nm ret) {a i : Nat} (hK : z_K G a = 104) (hw : Cond.fieldLink own i "FlashTrust$Paper" "images" "I" ∈ lw_tbl) (d : decode cc pc = .ok (.getfield i, 3)) (h : z_V q X nL Q k n G D (pc + 3) lv (.int (z_I D 411 a) :: st)) : z_V q X nL Q k n G D pc lv (.ref (z_w q a) :: st) := z_get o 4 11 rfl z_cw4 (by decide) hK rfl hw d h
theorem pt_4_11 (o : z_O q X cc nL own nm ret) {a i : Nat} {v : Int32} (hK : z_K G a = 104) (hw : Cond.fieldLink own i "FlashTrust$Paper" "images" "I" ∈ lw_tbl) (d : decode cc pc = .ok (.putfield i, 3)) (h : z_V q X nL Q k n G (z_sI D 411 a v) (pc + 3) lv st) : z_V q X nL Q k n G D pc lv (.int v :: .ref (z_w q a) :: st) := z_putI o 4 11 rfl z_cw4 tyX4 tyX4_ok nmX4 (by decide) rfl hu_4 hK hw (Or.inl rfl) rfl rfl d h
theorem gt_4_12 (o : z_O q X cc nL own nm ret) {a i : Nat} (hK : z_K G a = 104) (hw : Cond.fieldLink own i "FlashTrust$Paper" "imageVersions" "[I" ∈ lw_tbl) (hk : z_K G (z_R G 412 a) ≠ 0) (d : decode cc pc = .ok (.getfield i, 3)) (h : z_V q X nL Q k n G D (pc + 3) lv (.ref (z_w q (z_R G 412 a)) :: st)) : z_V q X nL Q k n G D pc lv (.ref (z_w q a) :: st) := z_getR o 4 12 412 rfl z_cw4 (by decide) hK rfl hw hk d h
theorem pt_4_12 (o : z_O q X cc nL own nm ret) {a i v : Nat} (hv : v ≠ 0) (hK : z_K G a = 104) (hw : Cond.fieldLink own i "FlashTrust$Paper" "imageVersions" "[I" ∈ lw_tbl) (hnm : nm = "<init>") (hown : own = "FlashTrust$Paper") (d : decode cc pc = .ok (.putfield i, 3)) (h : z_V q X nL Q k n (z_sR G 412 a v) D (pc + 3) lv st) : z_V q X nL Q k n G D pc lv (.ref (z_w q v) :: .ref (z_w q a) :: st) := z_putR o 4 12 rfl z_cw4 tyX4 tyX4_ok nmX4 (by decide) rfl hu_4 hK hv hw (Or.inr ⟨rfl, hnm, hown.symm⟩) rfl rfl d h
theorem gt_4_13 (o : z_O q X cc nL own nm ret) {a i : Nat} (hK : z_K G a = 104) (hw : Cond.fieldLink own i "FlashTrust$Paper" "imageLengths" "[I" ∈ lw_tbl) (hk : z_K G (z_R G 413 a) ≠ 0) (d : decode cc pc = .ok (.getfield i, 3)) (h : z_V q X nL Q k n G D (pc + 3) lv (.ref (z_w q (z_R G 413 a)) :: st)) : z_V q X nL Q k n G D pc lv (.ref (z_w q a) :: st) := z_getR o 4 13 413 rfl z_cw4 (by decide) hK rfl hw hk d h
theorem pt_4_13 (o : z_O q X cc nL own nm ret) {a i v : Nat} (hv : v ≠ 0) (hK : z_K G a = 104) (hw : Cond.fieldLink own i "FlashTrust$Paper" "imageLengths" "[I" ∈ lw_tbl) (hnm : nm = "<init>") (hown : own = "FlashTrust$Paper") (d : decode cc pc = .ok (.putfield i, 3)) (h : z_V q X nL Q k n (z_sR G 413 a v) D (pc + 3) lv st) : z_V q X nL Q k n G D pc lv (.ref (z_w q v) :: .ref (z_w q a) :: st) := z_putR o 4 13 rfl z_cw4 tyX4 tyX4_ok nmX4 (by decide) rfl hu_4 hK hv hw (Or.inr ⟨rfl, hnm, hown.symm⟩) rfl rfl d h
theorem gt_4_14 (o : z_O q X cc nL own nm ret) {a i : Nat} (hK : z_K G a = 104) (hw : Cond.fieldLink own i "FlashTrust$Paper" "imageHashes" "[J" ∈ lw_tbl) (hk : z_K G (z_R G 414 a) ≠ 0) (d : decode cc pc = .ok (.getfield i, 3)) (h : z_V q X nL Q k n G D (pc + 3) lv (.ref (z_w q (z_R G 414 a)) :: st)) : z_V q X nL Q k n G D pc lv (.ref (z_w q a) :: st) := z_getR o 4 14 414 rfl z_cw4 (by decide) hK rfl hw hk d h
theorem pt_4_14 (o : z_O q X cc nL own nm ret) {a i v : Nat} (hv : v ≠ 0) (hK : z_K G a = 104) (hw : Cond.fieldLink own i "FlashTrust$Paper" "imageHashes" "[J" ∈ lw_tbl) (hnm : nm = "<init>") (hown : own = "FlashTrust$Paper") (d : decode cc pc = .ok (.putfield i, 3)) (h : z_V q X nL Q k n (z_sR G 414 a v) D (pc + 3) lv st) : z_V q X nL Q k n G D pc lv (.ref (z_w q v) :: .ref (z_w q a) :: st) := z_putR o 4 14 rfl z_cw4 tyX4 tyX4_ok nmX4 (by decide) rfl hu_4 hK hv hw (Or.inr ⟨rfl, hnm, hown.symm⟩) rfl rfl d h
theorem hu_5 : ((z_T 5).map Prod.snd).Nodup := by decide +kernel
theorem gt_5_0 (o : z_O q X cc nL own nm ret) {a i : Nat} (hK : z_K G a = 105) (hw : Cond.fieldLink own i "FlashTrust$Row" "cells" "[I" ∈ lw_tbl) (hk : z_K G (z_R G 500 a) ≠ 0) (d : decode cc pc = .ok (.getfield i, 3)) (h : z_V q X nL Q k n G D (pc + 3) lv (.ref (z_w q (z_R G 500 a)) :: st)) : z_V q X nL Q k n G D pc lv (.ref (z_w q a) :: st) := z_getR o 5 0 500 rfl z_cw5 (by decide) hK rfl hw hk d h
theorem pt_5_0 (o : z_O q X cc nL own nm ret) {a i v : Nat} (hv : v ≠ 0) (hK : z_K G a = 105) (hw : Cond.fieldLink own i "FlashTrust$Row" "cells" "[I" ∈ lw_tbl) (hnm : nm = "<init>") (hown : own = "FlashTrust$Row") (d : decode cc pc = .ok (.putfield i, 3)) (h : z_V q X nL Q k n (z_sR G 500 a v) D (pc + 3) lv st) : z_V q X nL Q k n G D pc lv (.ref (z_w q v) :: .ref (z_w q a) :: st) := z_putR o 5 0 rfl z_cw5 tyX5 tyX5_ok nmX5 (by decide) rfl hu_5 hK hv hw (Or.inr ⟨rfl, hnm, hown.symm⟩) rfl rfl d h
theorem gt_5_1 (o : z_O q X cc nL own nm ret) {a i : Nat} (hK : z_K G a = 105) (hw : Cond.fieldLink own i "FlashTrust$Row" "size" "I" ∈ lw_tbl) (d : decode cc pc = .ok (.getfield i, 3)) (h : z_V q X nL Q k n G D (pc + 3) lv (.int (z_I D 501 a) :: st)) : z_V q X nL Q k n G D pc lv (.ref (z_w q a) :: st) := z_get o 5 1 rfl z_cw5 (by decide) hK rfl hw d h
theorem pt_5_1 (o : z_O q X cc nL own nm ret) {a i : Nat} {v : Int32} (hK : z_K G a = 105) (hw : Cond.fieldLink own i "FlashTrust$Row" "size" "I" ∈ lw_tbl) (d : decode cc pc = .ok (.putfield i, 3)) (h : z_V q X nL Q k n G (z_sI D 501 a v) (pc + 3) lv st) : z_V q X nL Q k n G D pc lv (.int v :: .ref (z_w q a) :: st) := z_putI o 5 1 rfl z_cw5 tyX5 tyX5_ok nmX5 (by decide) rfl hu_5 hK hw (Or.inl rfl) rfl rfl d h
theorem hu_6 : ((z_T 6).map Prod.snd).Nodup := by decide +kernel
theorem gt_6_0 (o : z_O q X cc nL own nm ret) {a i : Nat} (hK : z_K G a = 106) (hw : Cond.fieldLink own i "FlashTrust$Shelf" "flash" "LFlashTrust$Flash;" ∈ lw_tbl) (hk : z_K G (z_R G 600 a) ≠ 0) (d : decode cc pc = .ok (.getfield i, 3)) (h : z_V q X nL Q k n G D (pc + 3) lv (.ref (z_w q (z_R G 600 a)) :: st)) : z_V q X nL Q k n G D pc lv (.ref (z_w q a) :: st) := z_getR o 6 0 600 rfl z_cw6 (by decide) hK rfl hw hk d h
theorem pt_6_0 (o : z_O q X cc nL own nm ret) {a i v : Nat} (hv : v ≠ 0) (hK : z_K G a = 106) (hw : Cond.fieldLink own i "FlashTrust$Shelf" "flash" "LFlashTrust$Flash;" ∈ lw_tbl) (hnm : nm = "<init>") (hown : own = "FlashTrust$Shelf") (d : decode cc pc = .ok (.putfield i, 3)) (h : z_V q X nL Q k n (z_sR G 600 a v) D (pc + 3) lv st) : z_V q X nL Q k n G D pc lv (.ref (z_w q v) :: .ref (z_w q a) :: st) := z_putR o 6 0 rfl z_cw6 tyX6 tyX6_ok nmX6 (by decide) rfl hu_6 hK hv hw (Or.inr ⟨rfl, hnm, hown.symm⟩) rfl rfl d h
theorem gt_6_1 (o : z_O q X cc nL own nm ret) {a i : Nat} (hK : z_K G a = 106) (hw : Cond.fieldLink own i "FlashTrust$Shelf" "first" "LFlashTrust$Entry;" ∈ lw_tbl) (hk : z_K G (z_R G 601 a) ≠ 0) (d : decode cc pc = .ok (.getfield i, 3)) (h : z_V q X nL Q k n G D (pc + 3) lv (.ref (z_w q (z_R G 601 a)) :: st)) : z_V q X nL Q k n G D pc lv (.ref (z_w q a) :: st) := z_getR o 6 1 601 rfl z_cw6 (by decide) hK rfl hw hk d h
theorem pt_6_1 (o : z_O q X cc nL own nm ret) {a i v : Nat} (hv : v ≠ 0) (hK : z_K G a = 106) (hw : Cond.fieldLink own i "FlashTrust$Shelf" "first" "LFlashTrust$Entry;" ∈ lw_tbl) (hnm : nm = "<init>") (hown : own = "FlashTrust$Shelf") (d : decode cc pc = .ok (.putfield i, 3)) (h : z_V q X nL Q k n (z_sR G 601 a v) D (pc + 3) lv st) : z_V q X nL Q k n G D pc lv (.ref (z_w q v) :: .ref (z_w q a) :: st) := z_putR o 6 1 rfl z_cw6 tyX6 tyX6_ok nmX6 (by decide) rfl hu_6 hK hv hw (Or.inr ⟨rfl, hnm, hown.symm⟩) rfl rfl d h
theorem gt_6_2 (o : z_O q X cc nL own nm ret) {a i : Nat} (hK : z_K G a = 106) (hw : Cond.fieldLink own i "FlashTrust$Shelf" "second" "LFlashTrust$Entry;" ∈ lw_tbl) (hk : z_K G (z_R G 602 a) ≠ 0) (d : decode cc pc = .ok (.getfield i, 3)) (h : z_V q X nL Q k n G D (pc + 3) lv (.ref (z_w q (z_R G 602 a)) :: st)) : z_V q X nL Q k n G D pc lv (.ref (z_w q a) :: st) := z_getR o 6 2 602 rfl z_cw6 (by decide) hK rfl hw hk d h
theorem pt_6_2 (o : z_O q X cc nL own nm ret) {a i v : Nat} (hv : v ≠ 0) (hK : z_K G a = 106) (hw : Cond.fieldLink own i "FlashTrust$Shelf" "second" "LFlashTrust$Entry;" ∈ lw_tbl) (hnm : nm = "<init>") (hown : own = "FlashTrust$Shelf") (d : decode cc pc = .ok (.putfield i, 3)) (h : z_V q X nL Q k n (z_sR G 602 a v) D (pc + 3) lv st) : z_V q X nL Q k n G D pc lv (.ref (z_w q v) :: .ref (z_w q a) :: st) := z_putR o 6 2 rfl z_cw6 tyX6 tyX6_ok nmX6 (by decide) rfl hu_6 hK hv hw (Or.inr ⟨rfl, hnm, hown.symm⟩) rfl rfl d h
theorem gt_6_3 (o : z_O q X cc nL own nm ret) {a i : Nat} (hK : z_K G a = 106) (hw : Cond.fieldLink own i "FlashTrust$Shelf" "factory" "LFlashTrust$Paper;" ∈ lw_tbl) (hk : z_K G (z_R G 603 a) ≠ 0) (d : decode cc pc = .ok (.getfield i, 3)) (h : z_V q X nL Q k n G D (pc + 3) lv (.ref (z_w q (z_R G 603 a)) :: st)) : z_V q X nL Q k n G D pc lv (.ref (z_w q a) :: st) := z_getR o 6 3 603 rfl z_cw6 (by decide) hK rfl hw hk d h
theorem pt_6_3 (o : z_O q X cc nL own nm ret) {a i v : Nat} (hv : v ≠ 0) (hK : z_K G a = 106) (hw : Cond.fieldLink own i "FlashTrust$Shelf" "factory" "LFlashTrust$Paper;" ∈ lw_tbl) (hnm : nm = "<init>") (hown : own = "FlashTrust$Shelf") (d : decode cc pc = .ok (.putfield i, 3)) (h : z_V q X nL Q k n (z_sR G 603 a v) D (pc + 3) lv st) : z_V q X nL Q k n G D pc lv (.ref (z_w q v) :: .ref (z_w q a) :: st) := z_putR o 6 3 rfl z_cw6 tyX6 tyX6_ok nmX6 (by decide) rfl hu_6 hK hv hw (Or.inr ⟨rfl, hnm, hown.symm⟩) rfl rfl d h
theorem gt_6_4 (o : z_O q X cc nL own nm ret) {a i : Nat} (hK : z_K G a = 106) (hw : Cond.fieldLink own i "FlashTrust$Shelf" "hasFactory" "Z" ∈ lw_tbl) (d : decode cc pc = .ok (.getfield i, 3)) (h : z_V q X nL Q k n G D (pc + 3) lv (.int (z_I D 604 a) :: st)) : z_V q X nL Q k n G D pc lv (.ref (z_w q a) :: st) := z_get o 6 4 rfl z_cw6 (by decide) hK rfl hw d h
theorem pt_6_4 (o : z_O q X cc nL own nm ret) {a i : Nat} {v : Int32} (hK : z_K G a = 106) (hw : Cond.fieldLink own i "FlashTrust$Shelf" "hasFactory" "Z" ∈ lw_tbl) (hnm : nm = "<init>") (hown : own = "FlashTrust$Shelf") (hv : v = 0 ∨ v = 1) (d : decode cc pc = .ok (.putfield i, 3)) (h : z_V q X nL Q k n G (z_sI D 604 a v) (pc + 3) lv st) : z_V q X nL Q k n G D pc lv (.int v :: .ref (z_w q a) :: st) := z_putI o 6 4 rfl z_cw6 tyX6 tyX6_ok nmX6 (by decide) rfl hu_6 hK hw (Or.inr ⟨rfl, hnm, hown.symm⟩) (z_nb hv) (z_fb hv) d h
theorem gt_6_5 (o : z_O q X cc nL own nm ret) {a i : Nat} (hK : z_K G a = 106) (hw : Cond.fieldLink own i "FlashTrust$Shelf" "kept" "LFlashTrust$Row;" ∈ lw_tbl) (hk : z_K G (z_R G 605 a) ≠ 0) (d : decode cc pc = .ok (.getfield i, 3)) (h : z_V q X nL Q k n G D (pc + 3) lv (.ref (z_w q (z_R G 605 a)) :: st)) : z_V q X nL Q k n G D pc lv (.ref (z_w q a) :: st) := z_getR o 6 5 605 rfl z_cw6 (by decide) hK rfl hw hk d h
theorem pt_6_5 (o : z_O q X cc nL own nm ret) {a i v : Nat} (hv : v ≠ 0) (hK : z_K G a = 106) (hw : Cond.fieldLink own i "FlashTrust$Shelf" "kept" "LFlashTrust$Row;" ∈ lw_tbl) (hnm : nm = "<init>") (hown : own = "FlashTrust$Shelf") (d : decode cc pc = .ok (.putfield i, 3)) (h : z_V q X nL Q k n (z_sR G 605 a v) D (pc + 3) lv st) : z_V q X nL Q k n G D pc lv (.ref (z_w q v) :: .ref (z_w q a) :: st) := z_putR o 6 5 rfl z_cw6 tyX6 tyX6_ok nmX6 (by decide) rfl hu_6 hK hv hw (Or.inr ⟨rfl, hnm, hown.symm⟩) rfl rfl d h
theorem hu_7 : ((z_T 7).map Prod.snd).Nodup := by decide +kernel
theorem gt_7_0 (o : z_O q X cc nL own nm ret) {a i : Nat} (hK : z_K G a = 107) (hw : Cond.fieldLink own i "FlashTrust$Signatures" "keys" "[I" ∈ lw_tbl) (hk : z_K G (z_R G 700 a) ≠ 0) (d : decode cc pc = .ok (.getfield i, 3)) (h : z_V q X nL Q k n G D (pc + 3) lv (.ref (z_w q (z_R G 700 a)) :: st)) : z_V q X nL Q k n G D pc lv (.ref (z_w q a) :: st) := z_getR o 7 0 700 rfl z_cw7 (by decide) hK rfl hw hk d h
theorem pt_7_0 (o : z_O q X cc nL own nm ret) {a i v : Nat} (hv : v ≠ 0) (hK : z_K G a = 107) (hw : Cond.fieldLink own i "FlashTrust$Signatures" "keys" "[I" ∈ lw_tbl) (hnm : nm = "<init>") (hown : own = "FlashTrust$Signatures") (d : decode cc pc = .ok (.putfield i, 3)) (h : z_V q X nL Q k n (z_sR G 700 a v) D (pc + 3) lv st) : z_V q X nL Q k n G D pc lv (.ref (z_w q v) :: .ref (z_w q a) :: st) := z_putR o 7 0 rfl z_cw7 tyX7 tyX7_ok nmX7 (by decide) rfl hu_7 hK hv hw (Or.inr ⟨rfl, hnm, hown.symm⟩) rfl rfl d h
theorem gt_7_1 (o : z_O q X cc nL own nm ret) {a i : Nat} (hK : z_K G a = 107) (hw : Cond.fieldLink own i "FlashTrust$Signatures" "hashes" "[J" ∈ lw_tbl) (hk : z_K G (z_R G 701 a) ≠ 0) (d : decode cc pc = .ok (.getfield i, 3)) (h : z_V q X nL Q k n G D (pc + 3) lv (.ref (z_w q (z_R G 701 a)) :: st)) : z_V q X nL Q k n G D pc lv (.ref (z_w q a) :: st) := z_getR o 7 1 701 rfl z_cw7 (by decide) hK rfl hw hk d h
theorem pt_7_1 (o : z_O q X cc nL own nm ret) {a i v : Nat} (hv : v ≠ 0) (hK : z_K G a = 107) (hw : Cond.fieldLink own i "FlashTrust$Signatures" "hashes" "[J" ∈ lw_tbl) (hnm : nm = "<init>") (hown : own = "FlashTrust$Signatures") (d : decode cc pc = .ok (.putfield i, 3)) (h : z_V q X nL Q k n (z_sR G 701 a v) D (pc + 3) lv st) : z_V q X nL Q k n G D pc lv (.ref (z_w q v) :: .ref (z_w q a) :: st) := z_putR o 7 1 rfl z_cw7 tyX7 tyX7_ok nmX7 (by decide) rfl hu_7 hK hv hw (Or.inr ⟨rfl, hnm, hown.symm⟩) rfl rfl d h
theorem gt_7_2 (o : z_O q X cc nL own nm ret) {a i : Nat} (hK : z_K G a = 107) (hw : Cond.fieldLink own i "FlashTrust$Signatures" "count" "I" ∈ lw_tbl) (d : decode cc pc = .ok (.getfield i, 3)) (h : z_V q X nL Q k n G D (pc + 3) lv (.int (z_I D 702 a) :: st)) : z_V q X nL Q k n G D pc lv (.ref (z_w q a) :: st) := z_get o 7 2 rfl z_cw7 (by decide) hK rfl hw d h
theorem pt_7_2 (o : z_O q X cc nL own nm ret) {a i : Nat} {v : Int32} (hK : z_K G a = 107) (hw : Cond.fieldLink own i "FlashTrust$Signatures" "count" "I" ∈ lw_tbl) (d : decode cc pc = .ok (.putfield i, 3)) (h : z_V q X nL Q k n G (z_sI D 702 a v) (pc + 3) lv st) : z_V q X nL Q k n G D pc lv (.int v :: .ref (z_w q a) :: st) := z_putI o 7 2 rfl z_cw7 tyX7 tyX7_ok nmX7 (by decide) rfl hu_7 hK hw (Or.inl rfl) rfl rfl d h
theorem hu_8 : ((z_T 8).map Prod.snd).Nodup := by decide +kernel
theorem gt_8_0 (o : z_O q X cc nL own nm ret) {a i : Nat} (hK : z_K G a = 108) (hw : Cond.fieldLink own i "FlashTrust$States" "flash" "LFlashTrust$Flash;" ∈ lw_tbl) (hk : z_K G (z_R G 800 a) ≠ 0) (d : decode cc pc = .ok (.getfield i, 3)) (h : z_V q X nL Q k n G D (pc + 3) lv (.ref (z_w q (z_R G 800 a)) :: st)) : z_V q X nL Q k n G D pc lv (.ref (z_w q a) :: st) := z_getR o 8 0 800 rfl z_cw8 (by decide) hK rfl hw hk d h
theorem pt_8_0 (o : z_O q X cc nL own nm ret) {a i v : Nat} (hv : v ≠ 0) (hK : z_K G a = 108) (hw : Cond.fieldLink own i "FlashTrust$States" "flash" "LFlashTrust$Flash;" ∈ lw_tbl) (hnm : nm = "<init>") (hown : own = "FlashTrust$States") (d : decode cc pc = .ok (.putfield i, 3)) (h : z_V q X nL Q k n (z_sR G 800 a v) D (pc + 3) lv st) : z_V q X nL Q k n G D pc lv (.ref (z_w q v) :: .ref (z_w q a) :: st) := z_putR o 8 0 rfl z_cw8 tyX8 tyX8_ok nmX8 (by decide) rfl hu_8 hK hv hw (Or.inr ⟨rfl, hnm, hown.symm⟩) rfl rfl d h
theorem gt_8_1 (o : z_O q X cc nL own nm ret) {a i : Nat} (hK : z_K G a = 108) (hw : Cond.fieldLink own i "FlashTrust$States" "factoryLength" "I" ∈ lw_tbl) (d : decode cc pc = .ok (.getfield i, 3)) (h : z_V q X nL Q k n G D (pc + 3) lv (.int (z_I D 801 a) :: st)) : z_V q X nL Q k n G D pc lv (.ref (z_w q a) :: st) := z_get o 8 1 rfl z_cw8 (by decide) hK rfl hw d h
theorem pt_8_1 (o : z_O q X cc nL own nm ret) {a i : Nat} {v : Int32} (hK : z_K G a = 108) (hw : Cond.fieldLink own i "FlashTrust$States" "factoryLength" "I" ∈ lw_tbl) (hnm : nm = "<init>") (hown : own = "FlashTrust$States") (d : decode cc pc = .ok (.putfield i, 3)) (h : z_V q X nL Q k n G (z_sI D 801 a v) (pc + 3) lv st) : z_V q X nL Q k n G D pc lv (.int v :: .ref (z_w q a) :: st) := z_putI o 8 1 rfl z_cw8 tyX8 tyX8_ok nmX8 (by decide) rfl hu_8 hK hw (Or.inr ⟨rfl, hnm, hown.symm⟩) rfl rfl d h
theorem gt_8_2 (o : z_O q X cc nL own nm ret) {a i : Nat} (hK : z_K G a = 108) (hw : Cond.fieldLink own i "FlashTrust$States" "factoryHash" "J" ∈ lw_tbl) (d : decode cc pc = .ok (.getfield i, 3)) (h : z_V q X nL Q k n G D (pc + 3) lv (.long (z_J D 802 a) :: st)) : z_V q X nL Q k n G D pc lv (.ref (z_w q a) :: st) := z_get o 8 2 rfl z_cw8 (by decide) hK rfl hw d h
theorem pt_8_2 (o : z_O q X cc nL own nm ret) {a i : Nat} {v : Int64} (hK : z_K G a = 108) (hw : Cond.fieldLink own i "FlashTrust$States" "factoryHash" "J" ∈ lw_tbl) (hnm : nm = "<init>") (hown : own = "FlashTrust$States") (d : decode cc pc = .ok (.putfield i, 3)) (h : z_V q X nL Q k n G (z_sJ D 802 a v) (pc + 3) lv st) : z_V q X nL Q k n G D pc lv (.long v :: .ref (z_w q a) :: st) := z_putJ o 8 2 rfl z_cw8 tyX8 tyX8_ok nmX8 (by decide) rfl hu_8 hK hw (Or.inr ⟨rfl, hnm, hown.symm⟩) rfl rfl d h
theorem gt_8_3 (o : z_O q X cc nL own nm ret) {a i : Nat} (hK : z_K G a = 108) (hw : Cond.fieldLink own i "FlashTrust$States" "page" "LFlashTrust$Row;" ∈ lw_tbl) (hk : z_K G (z_R G 803 a) ≠ 0) (d : decode cc pc = .ok (.getfield i, 3)) (h : z_V q X nL Q k n G D (pc + 3) lv (.ref (z_w q (z_R G 803 a)) :: st)) : z_V q X nL Q k n G D pc lv (.ref (z_w q a) :: st) := z_getR o 8 3 803 rfl z_cw8 (by decide) hK rfl hw hk d h
theorem pt_8_3 (o : z_O q X cc nL own nm ret) {a i v : Nat} (hv : v ≠ 0) (hK : z_K G a = 108) (hw : Cond.fieldLink own i "FlashTrust$States" "page" "LFlashTrust$Row;" ∈ lw_tbl) (hnm : nm = "<init>") (hown : own = "FlashTrust$States") (d : decode cc pc = .ok (.putfield i, 3)) (h : z_V q X nL Q k n (z_sR G 803 a v) D (pc + 3) lv st) : z_V q X nL Q k n G D pc lv (.ref (z_w q v) :: .ref (z_w q a) :: st) := z_putR o 8 3 rfl z_cw8 tyX8 tyX8_ok nmX8 (by decide) rfl hu_8 hK hv hw (Or.inr ⟨rfl, hnm, hown.symm⟩) rfl rfl d h
theorem gt_8_4 (o : z_O q X cc nL own nm ret) {a i : Nat} (hK : z_K G a = 108) (hw : Cond.fieldLink own i "FlashTrust$States" "place" "I" ∈ lw_tbl) (d : decode cc pc = .ok (.getfield i, 3)) (h : z_V q X nL Q k n G D (pc + 3) lv (.int (z_I D 804 a) :: st)) : z_V q X nL Q k n G D pc lv (.ref (z_w q a) :: st) := z_get o 8 4 rfl z_cw8 (by decide) hK rfl hw d h
theorem pt_8_4 (o : z_O q X cc nL own nm ret) {a i : Nat} {v : Int32} (hK : z_K G a = 108) (hw : Cond.fieldLink own i "FlashTrust$States" "place" "I" ∈ lw_tbl) (d : decode cc pc = .ok (.putfield i, 3)) (h : z_V q X nL Q k n G (z_sI D 804 a v) (pc + 3) lv st) : z_V q X nL Q k n G D pc lv (.int v :: .ref (z_w q a) :: st) := z_putI o 8 4 rfl z_cw8 tyX8 tyX8_ok nmX8 (by decide) rfl hu_8 hK hw (Or.inl rfl) rfl rfl d h
theorem gt_8_5 (o : z_O q X cc nL own nm ret) {a i : Nat} (hK : z_K G a = 108) (hw : Cond.fieldLink own i "FlashTrust$States" "number" "I" ∈ lw_tbl) (d : decode cc pc = .ok (.getfield i, 3)) (h : z_V q X nL Q k n G D (pc + 3) lv (.int (z_I D 805 a) :: st)) : z_V q X nL Q k n G D pc lv (.ref (z_w q a) :: st) := z_get o 8 5 rfl z_cw8 (by decide) hK rfl hw d h
theorem pt_8_5 (o : z_O q X cc nL own nm ret) {a i : Nat} {v : Int32} (hK : z_K G a = 108) (hw : Cond.fieldLink own i "FlashTrust$States" "number" "I" ∈ lw_tbl) (d : decode cc pc = .ok (.putfield i, 3)) (h : z_V q X nL Q k n G (z_sI D 805 a v) (pc + 3) lv st) : z_V q X nL Q k n G D pc lv (.int v :: .ref (z_w q a) :: st) := z_putI o 8 5 rfl z_cw8 tyX8 tyX8_ok nmX8 (by decide) rfl hu_8 hK hw (Or.inl rfl) rfl rfl d h
theorem gt_8_6 (o : z_O q X cc nL own nm ret) {a i : Nat} (hK : z_K G a = 108) (hw : Cond.fieldLink own i "FlashTrust$States" "slot" "I" ∈ lw_tbl) (d : decode cc pc = .ok (.getfield i, 3)) (h : z_V q X nL Q k n G D (pc + 3) lv (.int (z_I D 806 a) :: st)) : z_V q X nL Q k n G D pc lv (.ref (z_w q a) :: st) := z_get o 8 6 rfl z_cw8 (by decide) hK rfl hw d h
theorem pt_8_6 (o : z_O q X cc nL own nm ret) {a i : Nat} {v : Int32} (hK : z_K G a = 108) (hw : Cond.fieldLink own i "FlashTrust$States" "slot" "I" ∈ lw_tbl) (d : decode cc pc = .ok (.putfield i, 3)) (h : z_V q X nL Q k n G (z_sI D 806 a v) (pc + 3) lv st) : z_V q X nL Q k n G D pc lv (.int v :: .ref (z_w q a) :: st) := z_putI o 8 6 rfl z_cw8 tyX8 tyX8_ok nmX8 (by decide) rfl hu_8 hK hw (Or.inl rfl) rfl rfl d h
theorem gt_8_7 (o : z_O q X cc nL own nm ret) {a i : Nat} (hK : z_K G a = 108) (hw : Cond.fieldLink own i "FlashTrust$States" "version" "I" ∈ lw_tbl) (d : decode cc pc = .ok (.getfield i, 3)) (h : z_V q X nL Q k n G D (pc + 3) lv (.int (z_I D 807 a) :: st)) : z_V q X nL Q k n G D pc lv (.ref (z_w q a) :: st) := z_get o 8 7 rfl z_cw8 (by decide) hK rfl hw d h
theorem pt_8_7 (o : z_O q X cc nL own nm ret) {a i : Nat} {v : Int32} (hK : z_K G a = 108) (hw : Cond.fieldLink own i "FlashTrust$States" "version" "I" ∈ lw_tbl) (d : decode cc pc = .ok (.putfield i, 3)) (h : z_V q X nL Q k n G (z_sI D 807 a v) (pc + 3) lv st) : z_V q X nL Q k n G D pc lv (.int v :: .ref (z_w q a) :: st) := z_putI o 8 7 rfl z_cw8 tyX8 tyX8_ok nmX8 (by decide) rfl hu_8 hK hw (Or.inl rfl) rfl rfl d h
theorem gt_8_8 (o : z_O q X cc nL own nm ret) {a i : Nat} (hK : z_K G a = 108) (hw : Cond.fieldLink own i "FlashTrust$States" "length" "I" ∈ lw_tbl) (d : decode cc pc = .ok (.getfield i, 3)) (h : z_V q X nL Q k n G D (pc + 3) lv (.int (z_I D 808 a) :: st)) : z_V q X nL Q k n G D pc lv (.ref (z_w q a) :: st) := z_get o 8 8 rfl z_cw8 (by decide) hK rfl hw d h
theorem pt_8_8 (o : z_O q X cc nL own nm ret) {a i : Nat} {v : Int32} (hK : z_K G a = 108) (hw : Cond.fieldLink own i "FlashTrust$States" "length" "I" ∈ lw_tbl) (d : decode cc pc = .ok (.putfield i, 3)) (h : z_V q X nL Q k n G (z_sI D 808 a v) (pc + 3) lv st) : z_V q X nL Q k n G D pc lv (.int v :: .ref (z_w q a) :: st) := z_putI o 8 8 rfl z_cw8 tyX8 tyX8_ok nmX8 (by decide) rfl hu_8 hK hw (Or.inl rfl) rfl rfl d h
theorem gt_8_9 (o : z_O q X cc nL own nm ret) {a i : Nat} (hK : z_K G a = 108) (hw : Cond.fieldLink own i "FlashTrust$States" "hash" "J" ∈ lw_tbl) (d : decode cc pc = .ok (.getfield i, 3)) (h : z_V q X nL Q k n G D (pc + 3) lv (.long (z_J D 809 a) :: st)) : z_V q X nL Q k n G D pc lv (.ref (z_w q a) :: st) := z_get o 8 9 rfl z_cw8 (by decide) hK rfl hw d h
theorem pt_8_9 (o : z_O q X cc nL own nm ret) {a i : Nat} {v : Int64} (hK : z_K G a = 108) (hw : Cond.fieldLink own i "FlashTrust$States" "hash" "J" ∈ lw_tbl) (d : decode cc pc = .ok (.putfield i, 3)) (h : z_V q X nL Q k n G (z_sJ D 809 a v) (pc + 3) lv st) : z_V q X nL Q k n G D pc lv (.long v :: .ref (z_w q a) :: st) := z_putJ o 8 9 rfl z_cw8 tyX8 tyX8_ok nmX8 (by decide) rfl hu_8 hK hw (Or.inl rfl) rfl rfl d h
theorem gt_8_10 (o : z_O q X cc nL own nm ret) {a i : Nat} (hK : z_K G a = 108) (hw : Cond.fieldLink own i "FlashTrust$States" "staged" "I" ∈ lw_tbl) (d : decode cc pc = .ok (.getfield i, 3)) (h : z_V q X nL Q k n G D (pc + 3) lv (.int (z_I D 810 a) :: st)) : z_V q X nL Q k n G D pc lv (.ref (z_w q a) :: st) := z_get o 8 10 rfl z_cw8 (by decide) hK rfl hw d h
theorem pt_8_10 (o : z_O q X cc nL own nm ret) {a i : Nat} {v : Int32} (hK : z_K G a = 108) (hw : Cond.fieldLink own i "FlashTrust$States" "staged" "I" ∈ lw_tbl) (d : decode cc pc = .ok (.putfield i, 3)) (h : z_V q X nL Q k n G (z_sI D 810 a v) (pc + 3) lv st) : z_V q X nL Q k n G D pc lv (.int v :: .ref (z_w q a) :: st) := z_putI o 8 10 rfl z_cw8 tyX8 tyX8_ok nmX8 (by decide) rfl hu_8 hK hw (Or.inl rfl) rfl rfl d h
theorem gt_8_11 (o : z_O q X cc nL own nm ret) {a i : Nat} (hK : z_K G a = 108) (hw : Cond.fieldLink own i "FlashTrust$States" "stagedVersion" "I" ∈ lw_tbl) (d : decode cc pc = .ok (.getfield i, 3)) (h : z_V q X nL Q k n G D (pc + 3) lv (.int (z_I D 811 a) :: st)) : z_V q X nL Q k n G D pc lv (.ref (z_w q a) :: st) := z_get o 8 11 rfl z_cw8 (by decide) hK rfl hw d h
theorem pt_8_11 (o : z_O q X cc nL own nm ret) {a i : Nat} {v : Int32} (hK : z_K G a = 108) (hw : Cond.fieldLink own i "FlashTrust$States" "stagedVersion" "I" ∈ lw_tbl) (d : decode cc pc = .ok (.putfield i, 3)) (h : z_V q X nL Q k n G (z_sI D 811 a v) (pc + 3) lv st) : z_V q X nL Q k n G D pc lv (.int v :: .ref (z_w q a) :: st) := z_putI o 8 11 rfl z_cw8 tyX8 tyX8_ok nmX8 (by decide) rfl hu_8 hK hw (Or.inl rfl) rfl rfl d h
theorem gt_8_12 (o : z_O q X cc nL own nm ret) {a i : Nat} (hK : z_K G a = 108) (hw : Cond.fieldLink own i "FlashTrust$States" "stagedLength" "I" ∈ lw_tbl) (d : decode cc pc = .ok (.getfield i, 3)) (h : z_V q X nL Q k n G D (pc + 3) lv (.int (z_I D 812 a) :: st)) : z_V q X nL Q k n G D pc lv (.ref (z_w q a) :: st) := z_get o 8 12 rfl z_cw8 (by decide) hK rfl hw d h
theorem pt_8_12 (o : z_O q X cc nL own nm ret) {a i : Nat} {v : Int32} (hK : z_K G a = 108) (hw : Cond.fieldLink own i "FlashTrust$States" "stagedLength" "I" ∈ lw_tbl) (d : decode cc pc = .ok (.putfield i, 3)) (h : z_V q X nL Q k n G (z_sI D 812 a v) (pc + 3) lv st) : z_V q X nL Q k n G D pc lv (.int v :: .ref (z_w q a) :: st) := z_putI o 8 12 rfl z_cw8 tyX8 tyX8_ok nmX8 (by decide) rfl hu_8 hK hw (Or.inl rfl) rfl rfl d h
theorem gt_8_13 (o : z_O q X cc nL own nm ret) {a i : Nat} (hK : z_K G a = 108) (hw : Cond.fieldLink own i "FlashTrust$States" "stagedHash" "J" ∈ lw_tbl) (d : decode cc pc = .ok (.getfield i, 3)) (h : z_V q X nL Q k n G D (pc + 3) lv (.long (z_J D 813 a) :: st)) : z_V q X nL Q k n G D pc lv (.ref (z_w q a) :: st) := z_get o 8 13 rfl z_cw8 (by decide) hK rfl hw d h
theorem pt_8_13 (o : z_O q X cc nL own nm ret) {a i : Nat} {v : Int64} (hK : z_K G a = 108) (hw : Cond.fieldLink own i "FlashTrust$States" "stagedHash" "J" ∈ lw_tbl) (d : decode cc pc = .ok (.putfield i, 3)) (h : z_V q X nL Q k n G (z_sJ D 813 a v) (pc + 3) lv st) : z_V q X nL Q k n G D pc lv (.long v :: .ref (z_w q a) :: st) := z_putJ o 8 13 rfl z_cw8 tyX8 tyX8_ok nmX8 (by decide) rfl hu_8 hK hw (Or.inl rfl) rfl rfl d h
theorem hu_9 : ((z_T 9).map Prod.snd).Nodup := by decide +kernel
theorem gt_9_0 (o : z_O q X cc nL own nm ret) {a i : Nat} (hK : z_K G a = 109) (hw : Cond.fieldLink own i "FlashTrust$Update" "flash" "LFlashTrust$Flash;" ∈ lw_tbl) (hk : z_K G (z_R G 900 a) ≠ 0) (d : decode cc pc = .ok (.getfield i, 3)) (h : z_V q X nL Q k n G D (pc + 3) lv (.ref (z_w q (z_R G 900 a)) :: st)) : z_V q X nL Q k n G D pc lv (.ref (z_w q a) :: st) := z_getR o 9 0 900 rfl z_cw9 (by decide) hK rfl hw hk d h
theorem pt_9_0 (o : z_O q X cc nL own nm ret) {a i v : Nat} (hv : v ≠ 0) (hK : z_K G a = 109) (hw : Cond.fieldLink own i "FlashTrust$Update" "flash" "LFlashTrust$Flash;" ∈ lw_tbl) (hnm : nm = "<init>") (hown : own = "FlashTrust$Update") (d : decode cc pc = .ok (.putfield i, 3)) (h : z_V q X nL Q k n (z_sR G 900 a v) D (pc + 3) lv st) : z_V q X nL Q k n G D pc lv (.ref (z_w q v) :: .ref (z_w q a) :: st) := z_putR o 9 0 rfl z_cw9 tyX9 tyX9_ok nmX9 (by decide) rfl hu_9 hK hv hw (Or.inr ⟨rfl, hnm, hown.symm⟩) rfl rfl d h
theorem gt_9_1 (o : z_O q X cc nL own nm ret) {a i : Nat} (hK : z_K G a = 109) (hw : Cond.fieldLink own i "FlashTrust$Update" "shelves" "[LFlashTrust$Shelf;" ∈ lw_tbl) (hk : z_K G (z_R G 901 a) ≠ 0) (d : decode cc pc = .ok (.getfield i, 3)) (h : z_V q X nL Q k n G D (pc + 3) lv (.ref (z_w q (z_R G 901 a)) :: st)) : z_V q X nL Q k n G D pc lv (.ref (z_w q a) :: st) := z_getR o 9 1 901 rfl z_cw9 (by decide) hK rfl hw hk d h
theorem pt_9_1 (o : z_O q X cc nL own nm ret) {a i v : Nat} (hv : v ≠ 0) (hK : z_K G a = 109) (hw : Cond.fieldLink own i "FlashTrust$Update" "shelves" "[LFlashTrust$Shelf;" ∈ lw_tbl) (hnm : nm = "<init>") (hown : own = "FlashTrust$Update") (d : decode cc pc = .ok (.putfield i, 3)) (h : z_V q X nL Q k n (z_sR G 901 a v) D (pc + 3) lv st) : z_V q X nL Q k n G D pc lv (.ref (z_w q v) :: .ref (z_w q a) :: st) := z_putR o 9 1 rfl z_cw9 tyX9 tyX9_ok nmX9 (by decide) rfl hu_9 hK hv hw (Or.inr ⟨rfl, hnm, hown.symm⟩) rfl rfl d h
theorem gt_9_2 (o : z_O q X cc nL own nm ret) {a i : Nat} (hK : z_K G a = 109) (hw : Cond.fieldLink own i "FlashTrust$Update" "states" "LFlashTrust$States;" ∈ lw_tbl) (hk : z_K G (z_R G 902 a) ≠ 0) (d : decode cc pc = .ok (.getfield i, 3)) (h : z_V q X nL Q k n G D (pc + 3) lv (.ref (z_w q (z_R G 902 a)) :: st)) : z_V q X nL Q k n G D pc lv (.ref (z_w q a) :: st) := z_getR o 9 2 902 rfl z_cw9 (by decide) hK rfl hw hk d h
theorem pt_9_2 (o : z_O q X cc nL own nm ret) {a i v : Nat} (hv : v ≠ 0) (hK : z_K G a = 109) (hw : Cond.fieldLink own i "FlashTrust$Update" "states" "LFlashTrust$States;" ∈ lw_tbl) (hnm : nm = "<init>") (hown : own = "FlashTrust$Update") (d : decode cc pc = .ok (.putfield i, 3)) (h : z_V q X nL Q k n (z_sR G 902 a v) D (pc + 3) lv st) : z_V q X nL Q k n G D pc lv (.ref (z_w q v) :: .ref (z_w q a) :: st) := z_putR o 9 2 rfl z_cw9 tyX9 tyX9_ok nmX9 (by decide) rfl hu_9 hK hv hw (Or.inr ⟨rfl, hnm, hown.symm⟩) rfl rfl d h
theorem gt_9_3 (o : z_O q X cc nL own nm ret) {a i : Nat} (hK : z_K G a = 109) (hw : Cond.fieldLink own i "FlashTrust$Update" "signatures" "LFlashTrust$Signatures;" ∈ lw_tbl) (hk : z_K G (z_R G 903 a) ≠ 0) (d : decode cc pc = .ok (.getfield i, 3)) (h : z_V q X nL Q k n G D (pc + 3) lv (.ref (z_w q (z_R G 903 a)) :: st)) : z_V q X nL Q k n G D pc lv (.ref (z_w q a) :: st) := z_getR o 9 3 903 rfl z_cw9 (by decide) hK rfl hw hk d h
theorem pt_9_3 (o : z_O q X cc nL own nm ret) {a i v : Nat} (hv : v ≠ 0) (hK : z_K G a = 109) (hw : Cond.fieldLink own i "FlashTrust$Update" "signatures" "LFlashTrust$Signatures;" ∈ lw_tbl) (hnm : nm = "<init>") (hown : own = "FlashTrust$Update") (d : decode cc pc = .ok (.putfield i, 3)) (h : z_V q X nL Q k n (z_sR G 903 a v) D (pc + 3) lv st) : z_V q X nL Q k n G D pc lv (.ref (z_w q v) :: .ref (z_w q a) :: st) := z_putR o 9 3 rfl z_cw9 tyX9 tyX9_ok nmX9 (by decide) rfl hu_9 hK hv hw (Or.inr ⟨rfl, hnm, hown.symm⟩) rfl rfl d h
theorem gt_9_4 (o : z_O q X cc nL own nm ret) {a i : Nat} (hK : z_K G a = 109) (hw : Cond.fieldLink own i "FlashTrust$Update" "came" "LFlashTrust$Paper;" ∈ lw_tbl) (hk : z_K G (z_R G 904 a) ≠ 0) (d : decode cc pc = .ok (.getfield i, 3)) (h : z_V q X nL Q k n G D (pc + 3) lv (.ref (z_w q (z_R G 904 a)) :: st)) : z_V q X nL Q k n G D pc lv (.ref (z_w q a) :: st) := z_getR o 9 4 904 rfl z_cw9 (by decide) hK rfl hw hk d h
theorem pt_9_4 (o : z_O q X cc nL own nm ret) {a i v : Nat} (hv : v ≠ 0) (hK : z_K G a = 109) (hw : Cond.fieldLink own i "FlashTrust$Update" "came" "LFlashTrust$Paper;" ∈ lw_tbl) (hnm : nm = "<init>") (hown : own = "FlashTrust$Update") (d : decode cc pc = .ok (.putfield i, 3)) (h : z_V q X nL Q k n (z_sR G 904 a v) D (pc + 3) lv st) : z_V q X nL Q k n G D pc lv (.ref (z_w q v) :: .ref (z_w q a) :: st) := z_putR o 9 4 rfl z_cw9 tyX9 tyX9_ok nmX9 (by decide) rfl hu_9 hK hv hw (Or.inr ⟨rfl, hnm, hown.symm⟩) rfl rfl d h
theorem gt_9_5 (o : z_O q X cc nL own nm ret) {a i : Nat} (hK : z_K G a = 109) (hw : Cond.fieldLink own i "FlashTrust$Update" "noDocument" "LFlashTrust$Row;" ∈ lw_tbl) (hk : z_K G (z_R G 905 a) ≠ 0) (d : decode cc pc = .ok (.getfield i, 3)) (h : z_V q X nL Q k n G D (pc + 3) lv (.ref (z_w q (z_R G 905 a)) :: st)) : z_V q X nL Q k n G D pc lv (.ref (z_w q a) :: st) := z_getR o 9 5 905 rfl z_cw9 (by decide) hK rfl hw hk d h
theorem pt_9_5 (o : z_O q X cc nL own nm ret) {a i v : Nat} (hv : v ≠ 0) (hK : z_K G a = 109) (hw : Cond.fieldLink own i "FlashTrust$Update" "noDocument" "LFlashTrust$Row;" ∈ lw_tbl) (hnm : nm = "<init>") (hown : own = "FlashTrust$Update") (d : decode cc pc = .ok (.putfield i, 3)) (h : z_V q X nL Q k n (z_sR G 905 a v) D (pc + 3) lv st) : z_V q X nL Q k n G D pc lv (.ref (z_w q v) :: .ref (z_w q a) :: st) := z_putR o 9 5 rfl z_cw9 tyX9 tyX9_ok nmX9 (by decide) rfl hu_9 hK hv hw (Or.inr ⟨rfl, hnm, hown.symm⟩) rfl rfl d h
theorem gt_9_6 (o : z_O q X cc nL own nm ret) {a i : Nat} (hK : z_K G a = 109) (hw : Cond.fieldLink own i "FlashTrust$Update" "awaited" "I" ∈ lw_tbl) (d : decode cc pc = .ok (.getfield i, 3)) (h : z_V q X nL Q k n G D (pc + 3) lv (.int (z_I D 906 a) :: st)) : z_V q X nL Q k n G D pc lv (.ref (z_w q a) :: st) := z_get o 9 6 rfl z_cw9 (by decide) hK rfl hw d h
theorem pt_9_6 (o : z_O q X cc nL own nm ret) {a i : Nat} {v : Int32} (hK : z_K G a = 109) (hw : Cond.fieldLink own i "FlashTrust$Update" "awaited" "I" ∈ lw_tbl) (d : decode cc pc = .ok (.putfield i, 3)) (h : z_V q X nL Q k n G (z_sI D 906 a v) (pc + 3) lv st) : z_V q X nL Q k n G D pc lv (.int v :: .ref (z_w q a) :: st) := z_putI o 9 6 rfl z_cw9 tyX9 tyX9_ok nmX9 (by decide) rfl hu_9 hK hw (Or.inl rfl) rfl rfl d h
theorem gt_9_7 (o : z_O q X cc nL own nm ret) {a i : Nat} (hK : z_K G a = 109) (hw : Cond.fieldLink own i "FlashTrust$Update" "piece" "I" ∈ lw_tbl) (d : decode cc pc = .ok (.getfield i, 3)) (h : z_V q X nL Q k n G D (pc + 3) lv (.int (z_I D 907 a) :: st)) : z_V q X nL Q k n G D pc lv (.ref (z_w q a) :: st) := z_get o 9 7 rfl z_cw9 (by decide) hK rfl hw d h
theorem pt_9_7 (o : z_O q X cc nL own nm ret) {a i : Nat} {v : Int32} (hK : z_K G a = 109) (hw : Cond.fieldLink own i "FlashTrust$Update" "piece" "I" ∈ lw_tbl) (d : decode cc pc = .ok (.putfield i, 3)) (h : z_V q X nL Q k n G (z_sI D 907 a v) (pc + 3) lv st) : z_V q X nL Q k n G D pc lv (.int v :: .ref (z_w q a) :: st) := z_putI o 9 7 rfl z_cw9 tyX9 tyX9_ok nmX9 (by decide) rfl hu_9 hK hw (Or.inl rfl) rfl rfl d h
theorem gt_9_8 (o : z_O q X cc nL own nm ret) {a i : Nat} (hK : z_K G a = 109) (hw : Cond.fieldLink own i "FlashTrust$Update" "clock" "I" ∈ lw_tbl) (d : decode cc pc = .ok (.getfield i, 3)) (h : z_V q X nL Q k n G D (pc + 3) lv (.int (z_I D 908 a) :: st)) : z_V q X nL Q k n G D pc lv (.ref (z_w q a) :: st) := z_get o 9 8 rfl z_cw9 (by decide) hK rfl hw d h
theorem pt_9_8 (o : z_O q X cc nL own nm ret) {a i : Nat} {v : Int32} (hK : z_K G a = 109) (hw : Cond.fieldLink own i "FlashTrust$Update" "clock" "I" ∈ lw_tbl) (d : decode cc pc = .ok (.putfield i, 3)) (h : z_V q X nL Q k n G (z_sI D 908 a v) (pc + 3) lv st) : z_V q X nL Q k n G D pc lv (.int v :: .ref (z_w q a) :: st) := z_putI o 9 8 rfl z_cw9 tyX9 tyX9_ok nmX9 (by decide) rfl hu_9 hK hw (Or.inl rfl) rfl rfl d h
theorem gt_9_9 (o : z_O q X cc nL own nm ret) {a i : Nat} (hK : z_K G a = 109) (hw : Cond.fieldLink own i "FlashTrust$Update" "error" "I" ∈ lw_tbl) (d : decode cc pc = .ok (.getfield i, 3)) (h : z_V q X nL Q k n G D (pc + 3) lv (.int (z_I D 909 a) :: st)) : z_V q X nL Q k n G D pc lv (.ref (z_w q a) :: st) := z_get o 9 9 rfl z_cw9 (by decide) hK rfl hw d h
theorem pt_9_9 (o : z_O q X cc nL own nm ret) {a i : Nat} {v : Int32} (hK : z_K G a = 109) (hw : Cond.fieldLink own i "FlashTrust$Update" "error" "I" ∈ lw_tbl) (d : decode cc pc = .ok (.putfield i, 3)) (h : z_V q X nL Q k n G (z_sI D 909 a v) (pc + 3) lv st) : z_V q X nL Q k n G D pc lv (.int v :: .ref (z_w q a) :: st) := z_putI o 9 9 rfl z_cw9 tyX9 tyX9_ok nmX9 (by decide) rfl hu_9 hK hw (Or.inl rfl) rfl rfl d h
theorem hu_10 : ((z_T 10).map Prod.snd).Nodup := by decide +kernel
theorem gt_10_0 (o : z_O q X cc nL own nm ret) {a i : Nat} (hK : z_K G a = 110) (hw : Cond.fieldLink own i "FlashTrust" "tape" "LFlashTrust$Row;" ∈ lw_tbl) (hk : z_K G (z_R G 1000 a) ≠ 0) (d : decode cc pc = .ok (.getfield i, 3)) (h : z_V q X nL Q k n G D (pc + 3) lv (.ref (z_w q (z_R G 1000 a)) :: st)) : z_V q X nL Q k n G D pc lv (.ref (z_w q a) :: st) := z_getR o 10 0 1000 rfl z_cw10 (by decide) hK rfl hw hk d h
theorem pt_10_0 (o : z_O q X cc nL own nm ret) {a i v : Nat} (hv : v ≠ 0) (hK : z_K G a = 110) (hw : Cond.fieldLink own i "FlashTrust" "tape" "LFlashTrust$Row;" ∈ lw_tbl) (hnm : nm = "<init>") (hown : own = "FlashTrust") (d : decode cc pc = .ok (.putfield i, 3)) (h : z_V q X nL Q k n (z_sR G 1000 a v) D (pc + 3) lv st) : z_V q X nL Q k n G D pc lv (.ref (z_w q v) :: .ref (z_w q a) :: st) := z_putR o 10 0 rfl z_cw10 tyX10 tyX10_ok nmX10 (by decide) rfl hu_10 hK hv hw (Or.inr ⟨rfl, hnm, hown.symm⟩) rfl rfl d h
theorem gt_10_1 (o : z_O q X cc nL own nm ret) {a i : Nat} (hK : z_K G a = 110) (hw : Cond.fieldLink own i "FlashTrust" "maker" "LFlashTrust$Maker;" ∈ lw_tbl) (hk : z_K G (z_R G 1001 a) ≠ 0) (d : decode cc pc = .ok (.getfield i, 3)) (h : z_V q X nL Q k n G D (pc + 3) lv (.ref (z_w q (z_R G 1001 a)) :: st)) : z_V q X nL Q k n G D pc lv (.ref (z_w q a) :: st) := z_getR o 10 1 1001 rfl z_cw10 (by decide) hK rfl hw hk d h
theorem pt_10_1 (o : z_O q X cc nL own nm ret) {a i v : Nat} (hv : v ≠ 0) (hK : z_K G a = 110) (hw : Cond.fieldLink own i "FlashTrust" "maker" "LFlashTrust$Maker;" ∈ lw_tbl) (hnm : nm = "<init>") (hown : own = "FlashTrust") (d : decode cc pc = .ok (.putfield i, 3)) (h : z_V q X nL Q k n (z_sR G 1001 a v) D (pc + 3) lv st) : z_V q X nL Q k n G D pc lv (.ref (z_w q v) :: .ref (z_w q a) :: st) := z_putR o 10 1 rfl z_cw10 tyX10 tyX10_ok nmX10 (by decide) rfl hu_10 hK hv hw (Or.inr ⟨rfl, hnm, hown.symm⟩) rfl rfl d h
theorem gt_10_2 (o : z_O q X cc nL own nm ret) {a i : Nat} (hK : z_K G a = 110) (hw : Cond.fieldLink own i "FlashTrust" "flash" "LFlashTrust$Flash;" ∈ lw_tbl) (hk : z_K G (z_R G 1002 a) ≠ 0) (d : decode cc pc = .ok (.getfield i, 3)) (h : z_V q X nL Q k n G D (pc + 3) lv (.ref (z_w q (z_R G 1002 a)) :: st)) : z_V q X nL Q k n G D pc lv (.ref (z_w q a) :: st) := z_getR o 10 2 1002 rfl z_cw10 (by decide) hK rfl hw hk d h
theorem pt_10_2 (o : z_O q X cc nL own nm ret) {a i v : Nat} (hv : v ≠ 0) (hK : z_K G a = 110) (hw : Cond.fieldLink own i "FlashTrust" "flash" "LFlashTrust$Flash;" ∈ lw_tbl) (hnm : nm = "<init>") (hown : own = "FlashTrust") (d : decode cc pc = .ok (.putfield i, 3)) (h : z_V q X nL Q k n (z_sR G 1002 a v) D (pc + 3) lv st) : z_V q X nL Q k n G D pc lv (.ref (z_w q v) :: .ref (z_w q a) :: st) := z_putR o 10 2 rfl z_cw10 tyX10 tyX10_ok nmX10 (by decide) rfl hu_10 hK hv hw (Or.inr ⟨rfl, hnm, hown.symm⟩) rfl rfl d h
theorem gt_10_3 (o : z_O q X cc nL own nm ret) {a i : Nat} (hK : z_K G a = 110) (hw : Cond.fieldLink own i "FlashTrust" "shelves" "[LFlashTrust$Shelf;" ∈ lw_tbl) (hk : z_K G (z_R G 1003 a) ≠ 0) (d : decode cc pc = .ok (.getfield i, 3)) (h : z_V q X nL Q k n G D (pc + 3) lv (.ref (z_w q (z_R G 1003 a)) :: st)) : z_V q X nL Q k n G D pc lv (.ref (z_w q a) :: st) := z_getR o 10 3 1003 rfl z_cw10 (by decide) hK rfl hw hk d h
theorem pt_10_3 (o : z_O q X cc nL own nm ret) {a i v : Nat} (hv : v ≠ 0) (hK : z_K G a = 110) (hw : Cond.fieldLink own i "FlashTrust" "shelves" "[LFlashTrust$Shelf;" ∈ lw_tbl) (hnm : nm = "<init>") (hown : own = "FlashTrust") (d : decode cc pc = .ok (.putfield i, 3)) (h : z_V q X nL Q k n (z_sR G 1003 a v) D (pc + 3) lv st) : z_V q X nL Q k n G D pc lv (.ref (z_w q v) :: .ref (z_w q a) :: st) := z_putR o 10 3 rfl z_cw10 tyX10 tyX10_ok nmX10 (by decide) rfl hu_10 hK hv hw (Or.inr ⟨rfl, hnm, hown.symm⟩) rfl rfl d h
theorem gt_10_4 (o : z_O q X cc nL own nm ret) {a i : Nat} (hK : z_K G a = 110) (hw : Cond.fieldLink own i "FlashTrust" "states" "LFlashTrust$States;" ∈ lw_tbl) (hk : z_K G (z_R G 1004 a) ≠ 0) (d : decode cc pc = .ok (.getfield i, 3)) (h : z_V q X nL Q k n G D (pc + 3) lv (.ref (z_w q (z_R G 1004 a)) :: st)) : z_V q X nL Q k n G D pc lv (.ref (z_w q a) :: st) := z_getR o 10 4 1004 rfl z_cw10 (by decide) hK rfl hw hk d h
theorem pt_10_4 (o : z_O q X cc nL own nm ret) {a i v : Nat} (hv : v ≠ 0) (hK : z_K G a = 110) (hw : Cond.fieldLink own i "FlashTrust" "states" "LFlashTrust$States;" ∈ lw_tbl) (hnm : nm = "<init>") (hown : own = "FlashTrust") (d : decode cc pc = .ok (.putfield i, 3)) (h : z_V q X nL Q k n (z_sR G 1004 a v) D (pc + 3) lv st) : z_V q X nL Q k n G D pc lv (.ref (z_w q v) :: .ref (z_w q a) :: st) := z_putR o 10 4 rfl z_cw10 tyX10 tyX10_ok nmX10 (by decide) rfl hu_10 hK hv hw (Or.inr ⟨rfl, hnm, hown.symm⟩) rfl rfl d h
theorem gt_10_5 (o : z_O q X cc nL own nm ret) {a i : Nat} (hK : z_K G a = 110) (hw : Cond.fieldLink own i "FlashTrust" "loader" "LFlashTrust$Loader;" ∈ lw_tbl) (hk : z_K G (z_R G 1005 a) ≠ 0) (d : decode cc pc = .ok (.getfield i, 3)) (h : z_V q X nL Q k n G D (pc + 3) lv (.ref (z_w q (z_R G 1005 a)) :: st)) : z_V q X nL Q k n G D pc lv (.ref (z_w q a) :: st) := z_getR o 10 5 1005 rfl z_cw10 (by decide) hK rfl hw hk d h
theorem pt_10_5 (o : z_O q X cc nL own nm ret) {a i v : Nat} (hv : v ≠ 0) (hK : z_K G a = 110) (hw : Cond.fieldLink own i "FlashTrust" "loader" "LFlashTrust$Loader;" ∈ lw_tbl) (hnm : nm = "<init>") (hown : own = "FlashTrust") (d : decode cc pc = .ok (.putfield i, 3)) (h : z_V q X nL Q k n (z_sR G 1005 a v) D (pc + 3) lv st) : z_V q X nL Q k n G D pc lv (.ref (z_w q v) :: .ref (z_w q a) :: st) := z_putR o 10 5 rfl z_cw10 tyX10 tyX10_ok nmX10 (by decide) rfl hu_10 hK hv hw (Or.inr ⟨rfl, hnm, hown.symm⟩) rfl rfl d h
theorem gt_10_6 (o : z_O q X cc nL own nm ret) {a i : Nat} (hK : z_K G a = 110) (hw : Cond.fieldLink own i "FlashTrust" "update" "LFlashTrust$Update;" ∈ lw_tbl) (hk : z_K G (z_R G 1006 a) ≠ 0) (d : decode cc pc = .ok (.getfield i, 3)) (h : z_V q X nL Q k n G D (pc + 3) lv (.ref (z_w q (z_R G 1006 a)) :: st)) : z_V q X nL Q k n G D pc lv (.ref (z_w q a) :: st) := z_getR o 10 6 1006 rfl z_cw10 (by decide) hK rfl hw hk d h
theorem pt_10_6 (o : z_O q X cc nL own nm ret) {a i v : Nat} (hv : v ≠ 0) (hK : z_K G a = 110) (hw : Cond.fieldLink own i "FlashTrust" "update" "LFlashTrust$Update;" ∈ lw_tbl) (hnm : nm = "<init>") (hown : own = "FlashTrust") (d : decode cc pc = .ok (.putfield i, 3)) (h : z_V q X nL Q k n (z_sR G 1006 a v) D (pc + 3) lv st) : z_V q X nL Q k n G D pc lv (.ref (z_w q v) :: .ref (z_w q a) :: st) := z_putR o 10 6 rfl z_cw10 tyX10 tyX10_ok nmX10 (by decide) rfl hu_10 hK hv hw (Or.inr ⟨rfl, hnm, hown.symm⟩) rfl rfl d h
theorem hu_11 : ((z_T 11).map Prod.snd).Nodup := by decide +kernel
theorem gt_11_0 (o : z_O q X cc nL own nm ret) {a i : Nat} (hK : z_K G a = 111) (hw : Cond.fieldLink own i "FlashTrustModel" "flash" "[I" ∈ lw_tbl) (hk : z_K G (z_R G 1100 a) ≠ 0) (d : decode cc pc = .ok (.getfield i, 3)) (h : z_V q X nL Q k n G D (pc + 3) lv (.ref (z_w q (z_R G 1100 a)) :: st)) : z_V q X nL Q k n G D pc lv (.ref (z_w q a) :: st) := z_getR o 11 0 1100 rfl z_cw11 (by decide) hK rfl hw hk d h
theorem pt_11_0 (o : z_O q X cc nL own nm ret) {a i v : Nat} (hv : v ≠ 0) (hK : z_K G a = 111) (hw : Cond.fieldLink own i "FlashTrustModel" "flash" "[I" ∈ lw_tbl) (hnm : nm = "<init>") (hown : own = "FlashTrustModel") (d : decode cc pc = .ok (.putfield i, 3)) (h : z_V q X nL Q k n (z_sR G 1100 a v) D (pc + 3) lv st) : z_V q X nL Q k n G D pc lv (.ref (z_w q v) :: .ref (z_w q a) :: st) := z_putR o 11 0 rfl z_cw11 tyX11 tyX11_ok nmX11 (by decide) rfl hu_11 hK hv hw (Or.inr ⟨rfl, hnm, hown.symm⟩) rfl rfl d h
theorem gt_11_1 (o : z_O q X cc nL own nm ret) {a i : Nat} (hK : z_K G a = 111) (hw : Cond.fieldLink own i "FlashTrustModel" "factoryLength" "I" ∈ lw_tbl) (d : decode cc pc = .ok (.getfield i, 3)) (h : z_V q X nL Q k n G D (pc + 3) lv (.int (z_I D 1101 a) :: st)) : z_V q X nL Q k n G D pc lv (.ref (z_w q a) :: st) := z_get o 11 1 rfl z_cw11 (by decide) hK rfl hw d h
theorem pt_11_1 (o : z_O q X cc nL own nm ret) {a i : Nat} {v : Int32} (hK : z_K G a = 111) (hw : Cond.fieldLink own i "FlashTrustModel" "factoryLength" "I" ∈ lw_tbl) (hnm : nm = "<init>") (hown : own = "FlashTrustModel") (d : decode cc pc = .ok (.putfield i, 3)) (h : z_V q X nL Q k n G (z_sI D 1101 a v) (pc + 3) lv st) : z_V q X nL Q k n G D pc lv (.int v :: .ref (z_w q a) :: st) := z_putI o 11 1 rfl z_cw11 tyX11 tyX11_ok nmX11 (by decide) rfl hu_11 hK hw (Or.inr ⟨rfl, hnm, hown.symm⟩) rfl rfl d h
theorem gt_11_2 (o : z_O q X cc nL own nm ret) {a i : Nat} (hK : z_K G a = 111) (hw : Cond.fieldLink own i "FlashTrustModel" "factoryDigest" "J" ∈ lw_tbl) (d : decode cc pc = .ok (.getfield i, 3)) (h : z_V q X nL Q k n G D (pc + 3) lv (.long (z_J D 1102 a) :: st)) : z_V q X nL Q k n G D pc lv (.ref (z_w q a) :: st) := z_get o 11 2 rfl z_cw11 (by decide) hK rfl hw d h
theorem pt_11_2 (o : z_O q X cc nL own nm ret) {a i : Nat} {v : Int64} (hK : z_K G a = 111) (hw : Cond.fieldLink own i "FlashTrustModel" "factoryDigest" "J" ∈ lw_tbl) (hnm : nm = "<init>") (hown : own = "FlashTrustModel") (d : decode cc pc = .ok (.putfield i, 3)) (h : z_V q X nL Q k n G (z_sJ D 1102 a v) (pc + 3) lv st) : z_V q X nL Q k n G D pc lv (.long v :: .ref (z_w q a) :: st) := z_putJ o 11 2 rfl z_cw11 tyX11 tyX11_ok nmX11 (by decide) rfl hu_11 hK hw (Or.inr ⟨rfl, hnm, hown.symm⟩) rfl rfl d h
theorem gt_11_3 (o : z_O q X cc nL own nm ret) {a i : Nat} (hK : z_K G a = 111) (hw : Cond.fieldLink own i "FlashTrustModel" "isDown" "Z" ∈ lw_tbl) (d : decode cc pc = .ok (.getfield i, 3)) (h : z_V q X nL Q k n G D (pc + 3) lv (.int (z_I D 1103 a) :: st)) : z_V q X nL Q k n G D pc lv (.ref (z_w q a) :: st) := z_get o 11 3 rfl z_cw11 (by decide) hK rfl hw d h
theorem pt_11_3 (o : z_O q X cc nL own nm ret) {a i : Nat} {v : Int32} (hK : z_K G a = 111) (hw : Cond.fieldLink own i "FlashTrustModel" "isDown" "Z" ∈ lw_tbl) (hv : v = 0 ∨ v = 1) (d : decode cc pc = .ok (.putfield i, 3)) (h : z_V q X nL Q k n G (z_sI D 1103 a v) (pc + 3) lv st) : z_V q X nL Q k n G D pc lv (.int v :: .ref (z_w q a) :: st) := z_putI o 11 3 rfl z_cw11 tyX11 tyX11_ok nmX11 (by decide) rfl hu_11 hK hw (Or.inl rfl) (z_nb hv) (z_fb hv) d h
theorem gt_11_4 (o : z_O q X cc nL own nm ret) {a i : Nat} (hK : z_K G a = 111) (hw : Cond.fieldLink own i "FlashTrustModel" "writings" "I" ∈ lw_tbl) (d : decode cc pc = .ok (.getfield i, 3)) (h : z_V q X nL Q k n G D (pc + 3) lv (.int (z_I D 1104 a) :: st)) : z_V q X nL Q k n G D pc lv (.ref (z_w q a) :: st) := z_get o 11 4 rfl z_cw11 (by decide) hK rfl hw d h
theorem pt_11_4 (o : z_O q X cc nL own nm ret) {a i : Nat} {v : Int32} (hK : z_K G a = 111) (hw : Cond.fieldLink own i "FlashTrustModel" "writings" "I" ∈ lw_tbl) (d : decode cc pc = .ok (.putfield i, 3)) (h : z_V q X nL Q k n G (z_sI D 1104 a v) (pc + 3) lv st) : z_V q X nL Q k n G D pc lv (.int v :: .ref (z_w q a) :: st) := z_putI o 11 4 rfl z_cw11 tyX11 tyX11_ok nmX11 (by decide) rfl hu_11 hK hw (Or.inl rfl) rfl rfl d h
theorem gt_11_5 (o : z_O q X cc nL own nm ret) {a i : Nat} (hK : z_K G a = 111) (hw : Cond.fieldLink own i "FlashTrustModel" "erasings" "I" ∈ lw_tbl) (d : decode cc pc = .ok (.getfield i, 3)) (h : z_V q X nL Q k n G D (pc + 3) lv (.int (z_I D 1105 a) :: st)) : z_V q X nL Q k n G D pc lv (.ref (z_w q a) :: st) := z_get o 11 5 rfl z_cw11 (by decide) hK rfl hw d h
theorem pt_11_5 (o : z_O q X cc nL own nm ret) {a i : Nat} {v : Int32} (hK : z_K G a = 111) (hw : Cond.fieldLink own i "FlashTrustModel" "erasings" "I" ∈ lw_tbl) (d : decode cc pc = .ok (.putfield i, 3)) (h : z_V q X nL Q k n G (z_sI D 1105 a v) (pc + 3) lv st) : z_V q X nL Q k n G D pc lv (.int v :: .ref (z_w q a) :: st) := z_putI o 11 5 rfl z_cw11 tyX11 tyX11_ok nmX11 (by decide) rfl hu_11 hK hw (Or.inl rfl) rfl rfl d h
theorem gt_11_6 (o : z_O q X cc nL own nm ret) {a i : Nat} (hK : z_K G a = 111) (hw : Cond.fieldLink own i "FlashTrustModel" "powerLeft" "I" ∈ lw_tbl) (d : decode cc pc = .ok (.getfield i, 3)) (h : z_V q X nL Q k n G D (pc + 3) lv (.int (z_I D 1106 a) :: st)) : z_V q X nL Q k n G D pc lv (.ref (z_w q a) :: st) := z_get o 11 6 rfl z_cw11 (by decide) hK rfl hw d h
theorem pt_11_6 (o : z_O q X cc nL own nm ret) {a i : Nat} {v : Int32} (hK : z_K G a = 111) (hw : Cond.fieldLink own i "FlashTrustModel" "powerLeft" "I" ∈ lw_tbl) (d : decode cc pc = .ok (.putfield i, 3)) (h : z_V q X nL Q k n G (z_sI D 1106 a v) (pc + 3) lv st) : z_V q X nL Q k n G D pc lv (.int v :: .ref (z_w q a) :: st) := z_putI o 11 6 rfl z_cw11 tyX11 tyX11_ok nmX11 (by decide) rfl hu_11 hK hw (Or.inl rfl) rfl rfl d h
theorem gt_11_7 (o : z_O q X cc nL own nm ret) {a i : Nat} (hK : z_K G a = 111) (hw : Cond.fieldLink own i "FlashTrustModel" "powerMask" "I" ∈ lw_tbl) (d : decode cc pc = .ok (.getfield i, 3)) (h : z_V q X nL Q k n G D (pc + 3) lv (.int (z_I D 1107 a) :: st)) : z_V q X nL Q k n G D pc lv (.ref (z_w q a) :: st) := z_get o 11 7 rfl z_cw11 (by decide) hK rfl hw d h
theorem pt_11_7 (o : z_O q X cc nL own nm ret) {a i : Nat} {v : Int32} (hK : z_K G a = 111) (hw : Cond.fieldLink own i "FlashTrustModel" "powerMask" "I" ∈ lw_tbl) (d : decode cc pc = .ok (.putfield i, 3)) (h : z_V q X nL Q k n G (z_sI D 1107 a v) (pc + 3) lv st) : z_V q X nL Q k n G D pc lv (.int v :: .ref (z_w q a) :: st) := z_putI o 11 7 rfl z_cw11 tyX11 tyX11_ok nmX11 (by decide) rfl hu_11 hK hw (Or.inl rfl) rfl rfl d h
theorem gt_11_8 (o : z_O q X cc nL own nm ret) {a i : Nat} (hK : z_K G a = 111) (hw : Cond.fieldLink own i "FlashTrustModel" "runs" "I" ∈ lw_tbl) (d : decode cc pc = .ok (.getfield i, 3)) (h : z_V q X nL Q k n G D (pc + 3) lv (.int (z_I D 1108 a) :: st)) : z_V q X nL Q k n G D pc lv (.ref (z_w q a) :: st) := z_get o 11 8 rfl z_cw11 (by decide) hK rfl hw d h
theorem pt_11_8 (o : z_O q X cc nL own nm ret) {a i : Nat} {v : Int32} (hK : z_K G a = 111) (hw : Cond.fieldLink own i "FlashTrustModel" "runs" "I" ∈ lw_tbl) (d : decode cc pc = .ok (.putfield i, 3)) (h : z_V q X nL Q k n G (z_sI D 1108 a v) (pc + 3) lv st) : z_V q X nL Q k n G D pc lv (.int v :: .ref (z_w q a) :: st) := z_putI o 11 8 rfl z_cw11 tyX11 tyX11_ok nmX11 (by decide) rfl hu_11 hK hw (Or.inl rfl) rfl rfl d h
theorem gt_11_9 (o : z_O q X cc nL own nm ret) {a i : Nat} (hK : z_K G a = 111) (hw : Cond.fieldLink own i "FlashTrustModel" "onTrial" "Z" ∈ lw_tbl) (d : decode cc pc = .ok (.getfield i, 3)) (h : z_V q X nL Q k n G D (pc + 3) lv (.int (z_I D 1109 a) :: st)) : z_V q X nL Q k n G D pc lv (.ref (z_w q a) :: st) := z_get o 11 9 rfl z_cw11 (by decide) hK rfl hw d h
theorem pt_11_9 (o : z_O q X cc nL own nm ret) {a i : Nat} {v : Int32} (hK : z_K G a = 111) (hw : Cond.fieldLink own i "FlashTrustModel" "onTrial" "Z" ∈ lw_tbl) (hv : v = 0 ∨ v = 1) (d : decode cc pc = .ok (.putfield i, 3)) (h : z_V q X nL Q k n G (z_sI D 1109 a v) (pc + 3) lv st) : z_V q X nL Q k n G D pc lv (.int v :: .ref (z_w q a) :: st) := z_putI o 11 9 rfl z_cw11 tyX11 tyX11_ok nmX11 (by decide) rfl hu_11 hK hw (Or.inl rfl) (z_nb hv) (z_fb hv) d h
theorem gt_11_10 (o : z_O q X cc nL own nm ret) {a i : Nat} (hK : z_K G a = 111) (hw : Cond.fieldLink own i "FlashTrustModel" "h" "J" ∈ lw_tbl) (d : decode cc pc = .ok (.getfield i, 3)) (h : z_V q X nL Q k n G D (pc + 3) lv (.long (z_J D 1110 a) :: st)) : z_V q X nL Q k n G D pc lv (.ref (z_w q a) :: st) := z_get o 11 10 rfl z_cw11 (by decide) hK rfl hw d h
theorem pt_11_10 (o : z_O q X cc nL own nm ret) {a i : Nat} {v : Int64} (hK : z_K G a = 111) (hw : Cond.fieldLink own i "FlashTrustModel" "h" "J" ∈ lw_tbl) (d : decode cc pc = .ok (.putfield i, 3)) (h : z_V q X nL Q k n G (z_sJ D 1110 a v) (pc + 3) lv st) : z_V q X nL Q k n G D pc lv (.long v :: .ref (z_w q a) :: st) := z_putJ o 11 10 rfl z_cw11 tyX11 tyX11_ok nmX11 (by decide) rfl hu_11 hK hw (Or.inl rfl) rfl rfl d h
theorem gt_11_11 (o : z_O q X cc nL own nm ret) {a i : Nat} (hK : z_K G a = 111) (hw : Cond.fieldLink own i "FlashTrustModel" "tape" "[I" ∈ lw_tbl) (hk : z_K G (z_R G 1111 a) ≠ 0) (d : decode cc pc = .ok (.getfield i, 3)) (h : z_V q X nL Q k n G D (pc + 3) lv (.ref (z_w q (z_R G 1111 a)) :: st)) : z_V q X nL Q k n G D pc lv (.ref (z_w q a) :: st) := z_getR o 11 11 1111 rfl z_cw11 (by decide) hK rfl hw hk d h
theorem pt_11_11 (o : z_O q X cc nL own nm ret) {a i v : Nat} (hv : v ≠ 0) (hK : z_K G a = 111) (hw : Cond.fieldLink own i "FlashTrustModel" "tape" "[I" ∈ lw_tbl) (hnm : nm = "<init>") (hown : own = "FlashTrustModel") (d : decode cc pc = .ok (.putfield i, 3)) (h : z_V q X nL Q k n (z_sR G 1111 a v) D (pc + 3) lv st) : z_V q X nL Q k n G D pc lv (.ref (z_w q v) :: .ref (z_w q a) :: st) := z_putR o 11 11 rfl z_cw11 tyX11 tyX11_ok nmX11 (by decide) rfl hu_11 hK hv hw (Or.inr ⟨rfl, hnm, hown.symm⟩) rfl rfl d h
theorem gt_11_12 (o : z_O q X cc nL own nm ret) {a i : Nat} (hK : z_K G a = 111) (hw : Cond.fieldLink own i "FlashTrustModel" "taped" "I" ∈ lw_tbl) (d : decode cc pc = .ok (.getfield i, 3)) (h : z_V q X nL Q k n G D (pc + 3) lv (.int (z_I D 1112 a) :: st)) : z_V q X nL Q k n G D pc lv (.ref (z_w q a) :: st) := z_get o 11 12 rfl z_cw11 (by decide) hK rfl hw d h
theorem pt_11_12 (o : z_O q X cc nL own nm ret) {a i : Nat} {v : Int32} (hK : z_K G a = 111) (hw : Cond.fieldLink own i "FlashTrustModel" "taped" "I" ∈ lw_tbl) (d : decode cc pc = .ok (.putfield i, 3)) (h : z_V q X nL Q k n G (z_sI D 1112 a v) (pc + 3) lv st) : z_V q X nL Q k n G D pc lv (.int v :: .ref (z_w q a) :: st) := z_putI o 11 12 rfl z_cw11 tyX11 tyX11_ok nmX11 (by decide) rfl hu_11 hK hw (Or.inl rfl) rfl rfl d h
theorem gt_11_13 (o : z_O q X cc nL own nm ret) {a i : Nat} (hK : z_K G a = 111) (hw : Cond.fieldLink own i "FlashTrustModel" "page" "[I" ∈ lw_tbl) (hk : z_K G (z_R G 1113 a) ≠ 0) (d : decode cc pc = .ok (.getfield i, 3)) (h : z_V q X nL Q k n G D (pc + 3) lv (.ref (z_w q (z_R G 1113 a)) :: st)) : z_V q X nL Q k n G D pc lv (.ref (z_w q a) :: st) := z_getR o 11 13 1113 rfl z_cw11 (by decide) hK rfl hw hk d h
theorem pt_11_13 (o : z_O q X cc nL own nm ret) {a i v : Nat} (hv : v ≠ 0) (hK : z_K G a = 111) (hw : Cond.fieldLink own i "FlashTrustModel" "page" "[I" ∈ lw_tbl) (hnm : nm = "<init>") (hown : own = "FlashTrustModel") (d : decode cc pc = .ok (.putfield i, 3)) (h : z_V q X nL Q k n (z_sR G 1113 a v) D (pc + 3) lv st) : z_V q X nL Q k n G D pc lv (.ref (z_w q v) :: .ref (z_w q a) :: st) := z_putR o 11 13 rfl z_cw11 tyX11 tyX11_ok nmX11 (by decide) rfl hu_11 hK hv hw (Or.inr ⟨rfl, hnm, hown.symm⟩) rfl rfl d h
theorem gt_11_14 (o : z_O q X cc nL own nm ret) {a i : Nat} (hK : z_K G a = 111) (hw : Cond.fieldLink own i "FlashTrustModel" "sAt" "I" ∈ lw_tbl) (d : decode cc pc = .ok (.getfield i, 3)) (h : z_V q X nL Q k n G D (pc + 3) lv (.int (z_I D 1114 a) :: st)) : z_V q X nL Q k n G D pc lv (.ref (z_w q a) :: st) := z_get o 11 14 rfl z_cw11 (by decide) hK rfl hw d h
theorem pt_11_14 (o : z_O q X cc nL own nm ret) {a i : Nat} {v : Int32} (hK : z_K G a = 111) (hw : Cond.fieldLink own i "FlashTrustModel" "sAt" "I" ∈ lw_tbl) (d : decode cc pc = .ok (.putfield i, 3)) (h : z_V q X nL Q k n G (z_sI D 1114 a v) (pc + 3) lv st) : z_V q X nL Q k n G D pc lv (.int v :: .ref (z_w q a) :: st) := z_putI o 11 14 rfl z_cw11 tyX11 tyX11_ok nmX11 (by decide) rfl hu_11 hK hw (Or.inl rfl) rfl rfl d h
theorem gt_11_15 (o : z_O q X cc nL own nm ret) {a i : Nat} (hK : z_K G a = 111) (hw : Cond.fieldLink own i "FlashTrustModel" "sNumber" "I" ∈ lw_tbl) (d : decode cc pc = .ok (.getfield i, 3)) (h : z_V q X nL Q k n G D (pc + 3) lv (.int (z_I D 1115 a) :: st)) : z_V q X nL Q k n G D pc lv (.ref (z_w q a) :: st) := z_get o 11 15 rfl z_cw11 (by decide) hK rfl hw d h
theorem pt_11_15 (o : z_O q X cc nL own nm ret) {a i : Nat} {v : Int32} (hK : z_K G a = 111) (hw : Cond.fieldLink own i "FlashTrustModel" "sNumber" "I" ∈ lw_tbl) (d : decode cc pc = .ok (.putfield i, 3)) (h : z_V q X nL Q k n G (z_sI D 1115 a v) (pc + 3) lv st) : z_V q X nL Q k n G D pc lv (.int v :: .ref (z_w q a) :: st) := z_putI o 11 15 rfl z_cw11 tyX11 tyX11_ok nmX11 (by decide) rfl hu_11 hK hw (Or.inl rfl) rfl rfl d h
theorem gt_11_16 (o : z_O q X cc nL own nm ret) {a i : Nat} (hK : z_K G a = 111) (hw : Cond.fieldLink own i "FlashTrustModel" "sSlot" "I" ∈ lw_tbl) (d : decode cc pc = .ok (.getfield i, 3)) (h : z_V q X nL Q k n G D (pc + 3) lv (.int (z_I D 1116 a) :: st)) : z_V q X nL Q k n G D pc lv (.ref (z_w q a) :: st) := z_get o 11 16 rfl z_cw11 (by decide) hK rfl hw d h
theorem pt_11_16 (o : z_O q X cc nL own nm ret) {a i : Nat} {v : Int32} (hK : z_K G a = 111) (hw : Cond.fieldLink own i "FlashTrustModel" "sSlot" "I" ∈ lw_tbl) (d : decode cc pc = .ok (.putfield i, 3)) (h : z_V q X nL Q k n G (z_sI D 1116 a v) (pc + 3) lv st) : z_V q X nL Q k n G D pc lv (.int v :: .ref (z_w q a) :: st) := z_putI o 11 16 rfl z_cw11 tyX11 tyX11_ok nmX11 (by decide) rfl hu_11 hK hw (Or.inl rfl) rfl rfl d h
theorem gt_11_17 (o : z_O q X cc nL own nm ret) {a i : Nat} (hK : z_K G a = 111) (hw : Cond.fieldLink own i "FlashTrustModel" "sVersion" "I" ∈ lw_tbl) (d : decode cc pc = .ok (.getfield i, 3)) (h : z_V q X nL Q k n G D (pc + 3) lv (.int (z_I D 1117 a) :: st)) : z_V q X nL Q k n G D pc lv (.ref (z_w q a) :: st) := z_get o 11 17 rfl z_cw11 (by decide) hK rfl hw d h
theorem pt_11_17 (o : z_O q X cc nL own nm ret) {a i : Nat} {v : Int32} (hK : z_K G a = 111) (hw : Cond.fieldLink own i "FlashTrustModel" "sVersion" "I" ∈ lw_tbl) (d : decode cc pc = .ok (.putfield i, 3)) (h : z_V q X nL Q k n G (z_sI D 1117 a v) (pc + 3) lv st) : z_V q X nL Q k n G D pc lv (.int v :: .ref (z_w q a) :: st) := z_putI o 11 17 rfl z_cw11 tyX11 tyX11_ok nmX11 (by decide) rfl hu_11 hK hw (Or.inl rfl) rfl rfl d h
theorem gt_11_18 (o : z_O q X cc nL own nm ret) {a i : Nat} (hK : z_K G a = 111) (hw : Cond.fieldLink own i "FlashTrustModel" "sLength" "I" ∈ lw_tbl) (d : decode cc pc = .ok (.getfield i, 3)) (h : z_V q X nL Q k n G D (pc + 3) lv (.int (z_I D 1118 a) :: st)) : z_V q X nL Q k n G D pc lv (.ref (z_w q a) :: st) := z_get o 11 18 rfl z_cw11 (by decide) hK rfl hw d h
theorem pt_11_18 (o : z_O q X cc nL own nm ret) {a i : Nat} {v : Int32} (hK : z_K G a = 111) (hw : Cond.fieldLink own i "FlashTrustModel" "sLength" "I" ∈ lw_tbl) (d : decode cc pc = .ok (.putfield i, 3)) (h : z_V q X nL Q k n G (z_sI D 1118 a v) (pc + 3) lv st) : z_V q X nL Q k n G D pc lv (.int v :: .ref (z_w q a) :: st) := z_putI o 11 18 rfl z_cw11 tyX11 tyX11_ok nmX11 (by decide) rfl hu_11 hK hw (Or.inl rfl) rfl rfl d h
theorem gt_11_19 (o : z_O q X cc nL own nm ret) {a i : Nat} (hK : z_K G a = 111) (hw : Cond.fieldLink own i "FlashTrustModel" "sDigest" "J" ∈ lw_tbl) (d : decode cc pc = .ok (.getfield i, 3)) (h : z_V q X nL Q k n G D (pc + 3) lv (.long (z_J D 1119 a) :: st)) : z_V q X nL Q k n G D pc lv (.ref (z_w q a) :: st) := z_get o 11 19 rfl z_cw11 (by decide) hK rfl hw d h
theorem pt_11_19 (o : z_O q X cc nL own nm ret) {a i : Nat} {v : Int64} (hK : z_K G a = 111) (hw : Cond.fieldLink own i "FlashTrustModel" "sDigest" "J" ∈ lw_tbl) (d : decode cc pc = .ok (.putfield i, 3)) (h : z_V q X nL Q k n G (z_sJ D 1119 a v) (pc + 3) lv st) : z_V q X nL Q k n G D pc lv (.long v :: .ref (z_w q a) :: st) := z_putJ o 11 19 rfl z_cw11 tyX11 tyX11_ok nmX11 (by decide) rfl hu_11 hK hw (Or.inl rfl) rfl rfl d h
theorem gt_11_20 (o : z_O q X cc nL own nm ret) {a i : Nat} (hK : z_K G a = 111) (hw : Cond.fieldLink own i "FlashTrustModel" "sStaged" "I" ∈ lw_tbl) (d : decode cc pc = .ok (.getfield i, 3)) (h : z_V q X nL Q k n G D (pc + 3) lv (.int (z_I D 1120 a) :: st)) : z_V q X nL Q k n G D pc lv (.ref (z_w q a) :: st) := z_get o 11 20 rfl z_cw11 (by decide) hK rfl hw d h
theorem pt_11_20 (o : z_O q X cc nL own nm ret) {a i : Nat} {v : Int32} (hK : z_K G a = 111) (hw : Cond.fieldLink own i "FlashTrustModel" "sStaged" "I" ∈ lw_tbl) (d : decode cc pc = .ok (.putfield i, 3)) (h : z_V q X nL Q k n G (z_sI D 1120 a v) (pc + 3) lv st) : z_V q X nL Q k n G D pc lv (.int v :: .ref (z_w q a) :: st) := z_putI o 11 20 rfl z_cw11 tyX11 tyX11_ok nmX11 (by decide) rfl hu_11 hK hw (Or.inl rfl) rfl rfl d h
theorem gt_11_21 (o : z_O q X cc nL own nm ret) {a i : Nat} (hK : z_K G a = 111) (hw : Cond.fieldLink own i "FlashTrustModel" "gVersion" "I" ∈ lw_tbl) (d : decode cc pc = .ok (.getfield i, 3)) (h : z_V q X nL Q k n G D (pc + 3) lv (.int (z_I D 1121 a) :: st)) : z_V q X nL Q k n G D pc lv (.ref (z_w q a) :: st) := z_get o 11 21 rfl z_cw11 (by decide) hK rfl hw d h
theorem pt_11_21 (o : z_O q X cc nL own nm ret) {a i : Nat} {v : Int32} (hK : z_K G a = 111) (hw : Cond.fieldLink own i "FlashTrustModel" "gVersion" "I" ∈ lw_tbl) (d : decode cc pc = .ok (.putfield i, 3)) (h : z_V q X nL Q k n G (z_sI D 1121 a v) (pc + 3) lv st) : z_V q X nL Q k n G D pc lv (.int v :: .ref (z_w q a) :: st) := z_putI o 11 21 rfl z_cw11 tyX11 tyX11_ok nmX11 (by decide) rfl hu_11 hK hw (Or.inl rfl) rfl rfl d h
theorem gt_11_22 (o : z_O q X cc nL own nm ret) {a i : Nat} (hK : z_K G a = 111) (hw : Cond.fieldLink own i "FlashTrustModel" "gLength" "I" ∈ lw_tbl) (d : decode cc pc = .ok (.getfield i, 3)) (h : z_V q X nL Q k n G D (pc + 3) lv (.int (z_I D 1122 a) :: st)) : z_V q X nL Q k n G D pc lv (.ref (z_w q a) :: st) := z_get o 11 22 rfl z_cw11 (by decide) hK rfl hw d h
theorem pt_11_22 (o : z_O q X cc nL own nm ret) {a i : Nat} {v : Int32} (hK : z_K G a = 111) (hw : Cond.fieldLink own i "FlashTrustModel" "gLength" "I" ∈ lw_tbl) (d : decode cc pc = .ok (.putfield i, 3)) (h : z_V q X nL Q k n G (z_sI D 1122 a v) (pc + 3) lv st) : z_V q X nL Q k n G D pc lv (.int v :: .ref (z_w q a) :: st) := z_putI o 11 22 rfl z_cw11 tyX11 tyX11_ok nmX11 (by decide) rfl hu_11 hK hw (Or.inl rfl) rfl rfl d h
theorem gt_11_23 (o : z_O q X cc nL own nm ret) {a i : Nat} (hK : z_K G a = 111) (hw : Cond.fieldLink own i "FlashTrustModel" "gDigest" "J" ∈ lw_tbl) (d : decode cc pc = .ok (.getfield i, 3)) (h : z_V q X nL Q k n G D (pc + 3) lv (.long (z_J D 1123 a) :: st)) : z_V q X nL Q k n G D pc lv (.ref (z_w q a) :: st) := z_get o 11 23 rfl z_cw11 (by decide) hK rfl hw d h
theorem pt_11_23 (o : z_O q X cc nL own nm ret) {a i : Nat} {v : Int64} (hK : z_K G a = 111) (hw : Cond.fieldLink own i "FlashTrustModel" "gDigest" "J" ∈ lw_tbl) (d : decode cc pc = .ok (.putfield i, 3)) (h : z_V q X nL Q k n G (z_sJ D 1123 a v) (pc + 3) lv st) : z_V q X nL Q k n G D pc lv (.long v :: .ref (z_w q a) :: st) := z_putJ o 11 23 rfl z_cw11 tyX11 tyX11_ok nmX11 (by decide) rfl hu_11 hK hw (Or.inl rfl) rfl rfl d h
theorem gt_11_24 (o : z_O q X cc nL own nm ret) {a i : Nat} (hK : z_K G a = 111) (hw : Cond.fieldLink own i "FlashTrustModel" "pageAt" "I" ∈ lw_tbl) (d : decode cc pc = .ok (.getfield i, 3)) (h : z_V q X nL Q k n G D (pc + 3) lv (.int (z_I D 1124 a) :: st)) : z_V q X nL Q k n G D pc lv (.ref (z_w q a) :: st) := z_get o 11 24 rfl z_cw11 (by decide) hK rfl hw d h
theorem pt_11_24 (o : z_O q X cc nL own nm ret) {a i : Nat} {v : Int32} (hK : z_K G a = 111) (hw : Cond.fieldLink own i "FlashTrustModel" "pageAt" "I" ∈ lw_tbl) (d : decode cc pc = .ok (.putfield i, 3)) (h : z_V q X nL Q k n G (z_sI D 1124 a v) (pc + 3) lv st) : z_V q X nL Q k n G D pc lv (.int v :: .ref (z_w q a) :: st) := z_putI o 11 24 rfl z_cw11 tyX11 tyX11_ok nmX11 (by decide) rfl hu_11 hK hw (Or.inl rfl) rfl rfl d h
theorem gt_11_25 (o : z_O q X cc nL own nm ret) {a i : Nat} (hK : z_K G a = 111) (hw : Cond.fieldLink own i "FlashTrustModel" "doc" "[I" ∈ lw_tbl) (hk : z_K G (z_R G 1125 a) ≠ 0) (d : decode cc pc = .ok (.getfield i, 3)) (h : z_V q X nL Q k n G D (pc + 3) lv (.ref (z_w q (z_R G 1125 a)) :: st)) : z_V q X nL Q k n G D pc lv (.ref (z_w q a) :: st) := z_getR o 11 25 1125 rfl z_cw11 (by decide) hK rfl hw hk d h
theorem pt_11_25 (o : z_O q X cc nL own nm ret) {a i v : Nat} (hv : v ≠ 0) (hK : z_K G a = 111) (hw : Cond.fieldLink own i "FlashTrustModel" "doc" "[I" ∈ lw_tbl) (hnm : nm = "<init>") (hown : own = "FlashTrustModel") (d : decode cc pc = .ok (.putfield i, 3)) (h : z_V q X nL Q k n (z_sR G 1125 a v) D (pc + 3) lv st) : z_V q X nL Q k n G D pc lv (.ref (z_w q v) :: .ref (z_w q a) :: st) := z_putR o 11 25 rfl z_cw11 tyX11 tyX11_ok nmX11 (by decide) rfl hu_11 hK hv hw (Or.inr ⟨rfl, hnm, hown.symm⟩) rfl rfl d h
theorem gt_11_26 (o : z_O q X cc nL own nm ret) {a i : Nat} (hK : z_K G a = 111) (hw : Cond.fieldLink own i "FlashTrustModel" "docSize" "I" ∈ lw_tbl) (d : decode cc pc = .ok (.getfield i, 3)) (h : z_V q X nL Q k n G D (pc + 3) lv (.int (z_I D 1126 a) :: st)) : z_V q X nL Q k n G D pc lv (.ref (z_w q a) :: st) := z_get o 11 26 rfl z_cw11 (by decide) hK rfl hw d h
theorem pt_11_26 (o : z_O q X cc nL own nm ret) {a i : Nat} {v : Int32} (hK : z_K G a = 111) (hw : Cond.fieldLink own i "FlashTrustModel" "docSize" "I" ∈ lw_tbl) (d : decode cc pc = .ok (.putfield i, 3)) (h : z_V q X nL Q k n G (z_sI D 1126 a v) (pc + 3) lv st) : z_V q X nL Q k n G D pc lv (.int v :: .ref (z_w q a) :: st) := z_putI o 11 26 rfl z_cw11 tyX11 tyX11_ok nmX11 (by decide) rfl hu_11 hK hw (Or.inl rfl) rfl rfl d h
theorem gt_11_27 (o : z_O q X cc nL own nm ret) {a i : Nat} (hK : z_K G a = 111) (hw : Cond.fieldLink own i "FlashTrustModel" "docRole" "I" ∈ lw_tbl) (d : decode cc pc = .ok (.getfield i, 3)) (h : z_V q X nL Q k n G D (pc + 3) lv (.int (z_I D 1127 a) :: st)) : z_V q X nL Q k n G D pc lv (.ref (z_w q a) :: st) := z_get o 11 27 rfl z_cw11 (by decide) hK rfl hw d h
theorem pt_11_27 (o : z_O q X cc nL own nm ret) {a i : Nat} {v : Int32} (hK : z_K G a = 111) (hw : Cond.fieldLink own i "FlashTrustModel" "docRole" "I" ∈ lw_tbl) (d : decode cc pc = .ok (.putfield i, 3)) (h : z_V q X nL Q k n G (z_sI D 1127 a v) (pc + 3) lv st) : z_V q X nL Q k n G D pc lv (.int v :: .ref (z_w q a) :: st) := z_putI o 11 27 rfl z_cw11 tyX11 tyX11_ok nmX11 (by decide) rfl hu_11 hK hw (Or.inl rfl) rfl rfl d h
theorem gt_11_28 (o : z_O q X cc nL own nm ret) {a i : Nat} (hK : z_K G a = 111) (hw : Cond.fieldLink own i "FlashTrustModel" "bodyFrom" "I" ∈ lw_tbl) (d : decode cc pc = .ok (.getfield i, 3)) (h : z_V q X nL Q k n G D (pc + 3) lv (.int (z_I D 1128 a) :: st)) : z_V q X nL Q k n G D pc lv (.ref (z_w q a) :: st) := z_get o 11 28 rfl z_cw11 (by decide) hK rfl hw d h
theorem pt_11_28 (o : z_O q X cc nL own nm ret) {a i : Nat} {v : Int32} (hK : z_K G a = 111) (hw : Cond.fieldLink own i "FlashTrustModel" "bodyFrom" "I" ∈ lw_tbl) (d : decode cc pc = .ok (.putfield i, 3)) (h : z_V q X nL Q k n G (z_sI D 1128 a v) (pc + 3) lv st) : z_V q X nL Q k n G D pc lv (.int v :: .ref (z_w q a) :: st) := z_putI o 11 28 rfl z_cw11 tyX11 tyX11_ok nmX11 (by decide) rfl hu_11 hK hw (Or.inl rfl) rfl rfl d h
theorem gt_11_29 (o : z_O q X cc nL own nm ret) {a i : Nat} (hK : z_K G a = 111) (hw : Cond.fieldLink own i "FlashTrustModel" "bodySize" "I" ∈ lw_tbl) (d : decode cc pc = .ok (.getfield i, 3)) (h : z_V q X nL Q k n G D (pc + 3) lv (.int (z_I D 1129 a) :: st)) : z_V q X nL Q k n G D pc lv (.ref (z_w q a) :: st) := z_get o 11 29 rfl z_cw11 (by decide) hK rfl hw d h
theorem pt_11_29 (o : z_O q X cc nL own nm ret) {a i : Nat} {v : Int32} (hK : z_K G a = 111) (hw : Cond.fieldLink own i "FlashTrustModel" "bodySize" "I" ∈ lw_tbl) (d : decode cc pc = .ok (.putfield i, 3)) (h : z_V q X nL Q k n G (z_sI D 1129 a v) (pc + 3) lv st) : z_V q X nL Q k n G D pc lv (.int v :: .ref (z_w q a) :: st) := z_putI o 11 29 rfl z_cw11 tyX11 tyX11_ok nmX11 (by decide) rfl hu_11 hK hw (Or.inl rfl) rfl rfl d h
theorem gt_11_30 (o : z_O q X cc nL own nm ret) {a i : Nat} (hK : z_K G a = 111) (hw : Cond.fieldLink own i "FlashTrustModel" "docKeys" "I" ∈ lw_tbl) (d : decode cc pc = .ok (.getfield i, 3)) (h : z_V q X nL Q k n G D (pc + 3) lv (.int (z_I D 1130 a) :: st)) : z_V q X nL Q k n G D pc lv (.ref (z_w q a) :: st) := z_get o 11 30 rfl z_cw11 (by decide) hK rfl hw d h
theorem pt_11_30 (o : z_O q X cc nL own nm ret) {a i : Nat} {v : Int32} (hK : z_K G a = 111) (hw : Cond.fieldLink own i "FlashTrustModel" "docKeys" "I" ∈ lw_tbl) (d : decode cc pc = .ok (.putfield i, 3)) (h : z_V q X nL Q k n G (z_sI D 1130 a v) (pc + 3) lv st) : z_V q X nL Q k n G D pc lv (.int v :: .ref (z_w q a) :: st) := z_putI o 11 30 rfl z_cw11 tyX11 tyX11_ok nmX11 (by decide) rfl hu_11 hK hw (Or.inl rfl) rfl rfl d h
theorem gt_11_31 (o : z_O q X cc nL own nm ret) {a i : Nat} (hK : z_K G a = 111) (hw : Cond.fieldLink own i "FlashTrustModel" "docVersion" "I" ∈ lw_tbl) (d : decode cc pc = .ok (.getfield i, 3)) (h : z_V q X nL Q k n G D (pc + 3) lv (.int (z_I D 1131 a) :: st)) : z_V q X nL Q k n G D pc lv (.ref (z_w q a) :: st) := z_get o 11 31 rfl z_cw11 (by decide) hK rfl hw d h
theorem pt_11_31 (o : z_O q X cc nL own nm ret) {a i : Nat} {v : Int32} (hK : z_K G a = 111) (hw : Cond.fieldLink own i "FlashTrustModel" "docVersion" "I" ∈ lw_tbl) (d : decode cc pc = .ok (.putfield i, 3)) (h : z_V q X nL Q k n G (z_sI D 1131 a v) (pc + 3) lv st) : z_V q X nL Q k n G D pc lv (.int v :: .ref (z_w q a) :: st) := z_putI o 11 31 rfl z_cw11 tyX11 tyX11_ok nmX11 (by decide) rfl hu_11 hK hw (Or.inl rfl) rfl rfl d h
theorem gt_11_32 (o : z_O q X cc nL own nm ret) {a i : Nat} (hK : z_K G a = 111) (hw : Cond.fieldLink own i "FlashTrustModel" "docEnd" "J" ∈ lw_tbl) (d : decode cc pc = .ok (.getfield i, 3)) (h : z_V q X nL Q k n G D (pc + 3) lv (.long (z_J D 1132 a) :: st)) : z_V q X nL Q k n G D pc lv (.ref (z_w q a) :: st) := z_get o 11 32 rfl z_cw11 (by decide) hK rfl hw d h
theorem pt_11_32 (o : z_O q X cc nL own nm ret) {a i : Nat} {v : Int64} (hK : z_K G a = 111) (hw : Cond.fieldLink own i "FlashTrustModel" "docEnd" "J" ∈ lw_tbl) (d : decode cc pc = .ok (.putfield i, 3)) (h : z_V q X nL Q k n G (z_sJ D 1132 a v) (pc + 3) lv st) : z_V q X nL Q k n G D pc lv (.long v :: .ref (z_w q a) :: st) := z_putJ o 11 32 rfl z_cw11 tyX11 tyX11_ok nmX11 (by decide) rfl hu_11 hK hw (Or.inl rfl) rfl rfl d h
theorem gt_11_33 (o : z_O q X cc nL own nm ret) {a i : Nat} (hK : z_K G a = 111) (hw : Cond.fieldLink own i "FlashTrustModel" "roleKeys" "[I" ∈ lw_tbl) (hk : z_K G (z_R G 1133 a) ≠ 0) (d : decode cc pc = .ok (.getfield i, 3)) (h : z_V q X nL Q k n G D (pc + 3) lv (.ref (z_w q (z_R G 1133 a)) :: st)) : z_V q X nL Q k n G D pc lv (.ref (z_w q a) :: st) := z_getR o 11 33 1133 rfl z_cw11 (by decide) hK rfl hw hk d h
theorem pt_11_33 (o : z_O q X cc nL own nm ret) {a i v : Nat} (hv : v ≠ 0) (hK : z_K G a = 111) (hw : Cond.fieldLink own i "FlashTrustModel" "roleKeys" "[I" ∈ lw_tbl) (hnm : nm = "<init>") (hown : own = "FlashTrustModel") (d : decode cc pc = .ok (.putfield i, 3)) (h : z_V q X nL Q k n (z_sR G 1133 a v) D (pc + 3) lv st) : z_V q X nL Q k n G D pc lv (.ref (z_w q v) :: .ref (z_w q a) :: st) := z_putR o 11 33 rfl z_cw11 tyX11 tyX11_ok nmX11 (by decide) rfl hu_11 hK hv hw (Or.inr ⟨rfl, hnm, hown.symm⟩) rfl rfl d h
theorem gt_11_34 (o : z_O q X cc nL own nm ret) {a i : Nat} (hK : z_K G a = 111) (hw : Cond.fieldLink own i "FlashTrustModel" "roleThreshold" "[I" ∈ lw_tbl) (hk : z_K G (z_R G 1134 a) ≠ 0) (d : decode cc pc = .ok (.getfield i, 3)) (h : z_V q X nL Q k n G D (pc + 3) lv (.ref (z_w q (z_R G 1134 a)) :: st)) : z_V q X nL Q k n G D pc lv (.ref (z_w q a) :: st) := z_getR o 11 34 1134 rfl z_cw11 (by decide) hK rfl hw hk d h
theorem pt_11_34 (o : z_O q X cc nL own nm ret) {a i v : Nat} (hv : v ≠ 0) (hK : z_K G a = 111) (hw : Cond.fieldLink own i "FlashTrustModel" "roleThreshold" "[I" ∈ lw_tbl) (hnm : nm = "<init>") (hown : own = "FlashTrustModel") (d : decode cc pc = .ok (.putfield i, 3)) (h : z_V q X nL Q k n (z_sR G 1134 a v) D (pc + 3) lv st) : z_V q X nL Q k n G D pc lv (.ref (z_w q v) :: .ref (z_w q a) :: st) := z_putR o 11 34 rfl z_cw11 tyX11 tyX11_ok nmX11 (by decide) rfl hu_11 hK hv hw (Or.inr ⟨rfl, hnm, hown.symm⟩) rfl rfl d h
theorem gt_11_35 (o : z_O q X cc nL own nm ret) {a i : Nat} (hK : z_K G a = 111) (hw : Cond.fieldLink own i "FlashTrustModel" "toldVersion" "I" ∈ lw_tbl) (d : decode cc pc = .ok (.getfield i, 3)) (h : z_V q X nL Q k n G D (pc + 3) lv (.int (z_I D 1135 a) :: st)) : z_V q X nL Q k n G D pc lv (.ref (z_w q a) :: st) := z_get o 11 35 rfl z_cw11 (by decide) hK rfl hw d h
theorem pt_11_35 (o : z_O q X cc nL own nm ret) {a i : Nat} {v : Int32} (hK : z_K G a = 111) (hw : Cond.fieldLink own i "FlashTrustModel" "toldVersion" "I" ∈ lw_tbl) (d : decode cc pc = .ok (.putfield i, 3)) (h : z_V q X nL Q k n G (z_sI D 1135 a v) (pc + 3) lv st) : z_V q X nL Q k n G D pc lv (.int v :: .ref (z_w q a) :: st) := z_putI o 11 35 rfl z_cw11 tyX11 tyX11_ok nmX11 (by decide) rfl hu_11 hK hw (Or.inl rfl) rfl rfl d h
theorem gt_11_36 (o : z_O q X cc nL own nm ret) {a i : Nat} (hK : z_K G a = 111) (hw : Cond.fieldLink own i "FlashTrustModel" "toldDigest" "J" ∈ lw_tbl) (d : decode cc pc = .ok (.getfield i, 3)) (h : z_V q X nL Q k n G D (pc + 3) lv (.long (z_J D 1136 a) :: st)) : z_V q X nL Q k n G D pc lv (.ref (z_w q a) :: st) := z_get o 11 36 rfl z_cw11 (by decide) hK rfl hw d h
theorem pt_11_36 (o : z_O q X cc nL own nm ret) {a i : Nat} {v : Int64} (hK : z_K G a = 111) (hw : Cond.fieldLink own i "FlashTrustModel" "toldDigest" "J" ∈ lw_tbl) (d : decode cc pc = .ok (.putfield i, 3)) (h : z_V q X nL Q k n G (z_sJ D 1136 a v) (pc + 3) lv st) : z_V q X nL Q k n G D pc lv (.long v :: .ref (z_w q a) :: st) := z_putJ o 11 36 rfl z_cw11 tyX11 tyX11_ok nmX11 (by decide) rfl hu_11 hK hw (Or.inl rfl) rfl rfl d h
theorem gt_11_37 (o : z_O q X cc nL own nm ret) {a i : Nat} (hK : z_K G a = 111) (hw : Cond.fieldLink own i "FlashTrustModel" "images" "I" ∈ lw_tbl) (d : decode cc pc = .ok (.getfield i, 3)) (h : z_V q X nL Q k n G D (pc + 3) lv (.int (z_I D 1137 a) :: st)) : z_V q X nL Q k n G D pc lv (.ref (z_w q a) :: st) := z_get o 11 37 rfl z_cw11 (by decide) hK rfl hw d h
theorem pt_11_37 (o : z_O q X cc nL own nm ret) {a i : Nat} {v : Int32} (hK : z_K G a = 111) (hw : Cond.fieldLink own i "FlashTrustModel" "images" "I" ∈ lw_tbl) (d : decode cc pc = .ok (.putfield i, 3)) (h : z_V q X nL Q k n G (z_sI D 1137 a v) (pc + 3) lv st) : z_V q X nL Q k n G D pc lv (.int v :: .ref (z_w q a) :: st) := z_putI o 11 37 rfl z_cw11 tyX11 tyX11_ok nmX11 (by decide) rfl hu_11 hK hw (Or.inl rfl) rfl rfl d h
theorem gt_11_38 (o : z_O q X cc nL own nm ret) {a i : Nat} (hK : z_K G a = 111) (hw : Cond.fieldLink own i "FlashTrustModel" "imageVersion" "[I" ∈ lw_tbl) (hk : z_K G (z_R G 1138 a) ≠ 0) (d : decode cc pc = .ok (.getfield i, 3)) (h : z_V q X nL Q k n G D (pc + 3) lv (.ref (z_w q (z_R G 1138 a)) :: st)) : z_V q X nL Q k n G D pc lv (.ref (z_w q a) :: st) := z_getR o 11 38 1138 rfl z_cw11 (by decide) hK rfl hw hk d h
theorem pt_11_38 (o : z_O q X cc nL own nm ret) {a i v : Nat} (hv : v ≠ 0) (hK : z_K G a = 111) (hw : Cond.fieldLink own i "FlashTrustModel" "imageVersion" "[I" ∈ lw_tbl) (hnm : nm = "<init>") (hown : own = "FlashTrustModel") (d : decode cc pc = .ok (.putfield i, 3)) (h : z_V q X nL Q k n (z_sR G 1138 a v) D (pc + 3) lv st) : z_V q X nL Q k n G D pc lv (.ref (z_w q v) :: .ref (z_w q a) :: st) := z_putR o 11 38 rfl z_cw11 tyX11 tyX11_ok nmX11 (by decide) rfl hu_11 hK hv hw (Or.inr ⟨rfl, hnm, hown.symm⟩) rfl rfl d h
theorem gt_11_39 (o : z_O q X cc nL own nm ret) {a i : Nat} (hK : z_K G a = 111) (hw : Cond.fieldLink own i "FlashTrustModel" "imageLength" "[I" ∈ lw_tbl) (hk : z_K G (z_R G 1139 a) ≠ 0) (d : decode cc pc = .ok (.getfield i, 3)) (h : z_V q X nL Q k n G D (pc + 3) lv (.ref (z_w q (z_R G 1139 a)) :: st)) : z_V q X nL Q k n G D pc lv (.ref (z_w q a) :: st) := z_getR o 11 39 1139 rfl z_cw11 (by decide) hK rfl hw hk d h
theorem pt_11_39 (o : z_O q X cc nL own nm ret) {a i v : Nat} (hv : v ≠ 0) (hK : z_K G a = 111) (hw : Cond.fieldLink own i "FlashTrustModel" "imageLength" "[I" ∈ lw_tbl) (hnm : nm = "<init>") (hown : own = "FlashTrustModel") (d : decode cc pc = .ok (.putfield i, 3)) (h : z_V q X nL Q k n (z_sR G 1139 a v) D (pc + 3) lv st) : z_V q X nL Q k n G D pc lv (.ref (z_w q v) :: .ref (z_w q a) :: st) := z_putR o 11 39 rfl z_cw11 tyX11 tyX11_ok nmX11 (by decide) rfl hu_11 hK hv hw (Or.inr ⟨rfl, hnm, hown.symm⟩) rfl rfl d h
theorem gt_11_40 (o : z_O q X cc nL own nm ret) {a i : Nat} (hK : z_K G a = 111) (hw : Cond.fieldLink own i "FlashTrustModel" "imageDigest" "[J" ∈ lw_tbl) (hk : z_K G (z_R G 1140 a) ≠ 0) (d : decode cc pc = .ok (.getfield i, 3)) (h : z_V q X nL Q k n G D (pc + 3) lv (.ref (z_w q (z_R G 1140 a)) :: st)) : z_V q X nL Q k n G D pc lv (.ref (z_w q a) :: st) := z_getR o 11 40 1140 rfl z_cw11 (by decide) hK rfl hw hk d h
theorem pt_11_40 (o : z_O q X cc nL own nm ret) {a i v : Nat} (hv : v ≠ 0) (hK : z_K G a = 111) (hw : Cond.fieldLink own i "FlashTrustModel" "imageDigest" "[J" ∈ lw_tbl) (hnm : nm = "<init>") (hown : own = "FlashTrustModel") (d : decode cc pc = .ok (.putfield i, 3)) (h : z_V q X nL Q k n (z_sR G 1140 a v) D (pc + 3) lv st) : z_V q X nL Q k n G D pc lv (.ref (z_w q v) :: .ref (z_w q a) :: st) := z_putR o 11 40 rfl z_cw11 tyX11 tyX11_ok nmX11 (by decide) rfl hu_11 hK hv hw (Or.inr ⟨rfl, hnm, hown.symm⟩) rfl rfl d h
theorem gt_11_41 (o : z_O q X cc nL own nm ret) {a i : Nat} (hK : z_K G a = 111) (hw : Cond.fieldLink own i "FlashTrustModel" "signedKey" "[I" ∈ lw_tbl) (hk : z_K G (z_R G 1141 a) ≠ 0) (d : decode cc pc = .ok (.getfield i, 3)) (h : z_V q X nL Q k n G D (pc + 3) lv (.ref (z_w q (z_R G 1141 a)) :: st)) : z_V q X nL Q k n G D pc lv (.ref (z_w q a) :: st) := z_getR o 11 41 1141 rfl z_cw11 (by decide) hK rfl hw hk d h
theorem pt_11_41 (o : z_O q X cc nL own nm ret) {a i v : Nat} (hv : v ≠ 0) (hK : z_K G a = 111) (hw : Cond.fieldLink own i "FlashTrustModel" "signedKey" "[I" ∈ lw_tbl) (hnm : nm = "<init>") (hown : own = "FlashTrustModel") (d : decode cc pc = .ok (.putfield i, 3)) (h : z_V q X nL Q k n (z_sR G 1141 a v) D (pc + 3) lv st) : z_V q X nL Q k n G D pc lv (.ref (z_w q v) :: .ref (z_w q a) :: st) := z_putR o 11 41 rfl z_cw11 tyX11 tyX11_ok nmX11 (by decide) rfl hu_11 hK hv hw (Or.inr ⟨rfl, hnm, hown.symm⟩) rfl rfl d h
theorem gt_11_42 (o : z_O q X cc nL own nm ret) {a i : Nat} (hK : z_K G a = 111) (hw : Cond.fieldLink own i "FlashTrustModel" "signedDigest" "[J" ∈ lw_tbl) (hk : z_K G (z_R G 1142 a) ≠ 0) (d : decode cc pc = .ok (.getfield i, 3)) (h : z_V q X nL Q k n G D (pc + 3) lv (.ref (z_w q (z_R G 1142 a)) :: st)) : z_V q X nL Q k n G D pc lv (.ref (z_w q a) :: st) := z_getR o 11 42 1142 rfl z_cw11 (by decide) hK rfl hw hk d h
theorem pt_11_42 (o : z_O q X cc nL own nm ret) {a i v : Nat} (hv : v ≠ 0) (hK : z_K G a = 111) (hw : Cond.fieldLink own i "FlashTrustModel" "signedDigest" "[J" ∈ lw_tbl) (hnm : nm = "<init>") (hown : own = "FlashTrustModel") (d : decode cc pc = .ok (.putfield i, 3)) (h : z_V q X nL Q k n (z_sR G 1142 a v) D (pc + 3) lv st) : z_V q X nL Q k n G D pc lv (.ref (z_w q v) :: .ref (z_w q a) :: st) := z_putR o 11 42 rfl z_cw11 tyX11 tyX11_ok nmX11 (by decide) rfl hu_11 hK hv hw (Or.inr ⟨rfl, hnm, hown.symm⟩) rfl rfl d h
theorem gt_11_43 (o : z_O q X cc nL own nm ret) {a i : Nat} (hK : z_K G a = 111) (hw : Cond.fieldLink own i "FlashTrustModel" "signed" "I" ∈ lw_tbl) (d : decode cc pc = .ok (.getfield i, 3)) (h : z_V q X nL Q k n G D (pc + 3) lv (.int (z_I D 1143 a) :: st)) : z_V q X nL Q k n G D pc lv (.ref (z_w q a) :: st) := z_get o 11 43 rfl z_cw11 (by decide) hK rfl hw d h
theorem pt_11_43 (o : z_O q X cc nL own nm ret) {a i : Nat} {v : Int32} (hK : z_K G a = 111) (hw : Cond.fieldLink own i "FlashTrustModel" "signed" "I" ∈ lw_tbl) (d : decode cc pc = .ok (.putfield i, 3)) (h : z_V q X nL Q k n G (z_sI D 1143 a v) (pc + 3) lv st) : z_V q X nL Q k n G D pc lv (.int v :: .ref (z_w q a) :: st) := z_putI o 11 43 rfl z_cw11 tyX11 tyX11_ok nmX11 (by decide) rfl hu_11 hK hw (Or.inl rfl) rfl rfl d h
theorem gt_11_44 (o : z_O q X cc nL own nm ret) {a i : Nat} (hK : z_K G a = 111) (hw : Cond.fieldLink own i "FlashTrustModel" "recordSector" "I" ∈ lw_tbl) (d : decode cc pc = .ok (.getfield i, 3)) (h : z_V q X nL Q k n G D (pc + 3) lv (.int (z_I D 1144 a) :: st)) : z_V q X nL Q k n G D pc lv (.ref (z_w q a) :: st) := z_get o 11 44 rfl z_cw11 (by decide) hK rfl hw d h
theorem pt_11_44 (o : z_O q X cc nL own nm ret) {a i : Nat} {v : Int32} (hK : z_K G a = 111) (hw : Cond.fieldLink own i "FlashTrustModel" "recordSector" "I" ∈ lw_tbl) (d : decode cc pc = .ok (.putfield i, 3)) (h : z_V q X nL Q k n G (z_sI D 1144 a v) (pc + 3) lv st) : z_V q X nL Q k n G D pc lv (.int v :: .ref (z_w q a) :: st) := z_putI o 11 44 rfl z_cw11 tyX11 tyX11_ok nmX11 (by decide) rfl hu_11 hK hw (Or.inl rfl) rfl rfl d h
theorem gt_11_45 (o : z_O q X cc nL own nm ret) {a i : Nat} (hK : z_K G a = 111) (hw : Cond.fieldLink own i "FlashTrustModel" "recordNumber" "I" ∈ lw_tbl) (d : decode cc pc = .ok (.getfield i, 3)) (h : z_V q X nL Q k n G D (pc + 3) lv (.int (z_I D 1145 a) :: st)) : z_V q X nL Q k n G D pc lv (.ref (z_w q a) :: st) := z_get o 11 45 rfl z_cw11 (by decide) hK rfl hw d h
theorem pt_11_45 (o : z_O q X cc nL own nm ret) {a i : Nat} {v : Int32} (hK : z_K G a = 111) (hw : Cond.fieldLink own i "FlashTrustModel" "recordNumber" "I" ∈ lw_tbl) (d : decode cc pc = .ok (.putfield i, 3)) (h : z_V q X nL Q k n G (z_sI D 1145 a v) (pc + 3) lv st) : z_V q X nL Q k n G D pc lv (.int v :: .ref (z_w q a) :: st) := z_putI o 11 45 rfl z_cw11 tyX11 tyX11_ok nmX11 (by decide) rfl hu_11 hK hw (Or.inl rfl) rfl rfl d h
theorem gt_11_46 (o : z_O q X cc nL own nm ret) {a i : Nat} (hK : z_K G a = 111) (hw : Cond.fieldLink own i "FlashTrustModel" "recordSize" "I" ∈ lw_tbl) (d : decode cc pc = .ok (.getfield i, 3)) (h : z_V q X nL Q k n G D (pc + 3) lv (.int (z_I D 1146 a) :: st)) : z_V q X nL Q k n G D pc lv (.ref (z_w q a) :: st) := z_get o 11 46 rfl z_cw11 (by decide) hK rfl hw d h
theorem pt_11_46 (o : z_O q X cc nL own nm ret) {a i : Nat} {v : Int32} (hK : z_K G a = 111) (hw : Cond.fieldLink own i "FlashTrustModel" "recordSize" "I" ∈ lw_tbl) (d : decode cc pc = .ok (.putfield i, 3)) (h : z_V q X nL Q k n G (z_sI D 1146 a v) (pc + 3) lv st) : z_V q X nL Q k n G D pc lv (.int v :: .ref (z_w q a) :: st) := z_putI o 11 46 rfl z_cw11 tyX11 tyX11_ok nmX11 (by decide) rfl hu_11 hK hw (Or.inl rfl) rfl rfl d h
theorem gt_11_47 (o : z_O q X cc nL own nm ret) {a i : Nat} (hK : z_K G a = 111) (hw : Cond.fieldLink own i "FlashTrustModel" "record" "[I" ∈ lw_tbl) (hk : z_K G (z_R G 1147 a) ≠ 0) (d : decode cc pc = .ok (.getfield i, 3)) (h : z_V q X nL Q k n G D (pc + 3) lv (.ref (z_w q (z_R G 1147 a)) :: st)) : z_V q X nL Q k n G D pc lv (.ref (z_w q a) :: st) := z_getR o 11 47 1147 rfl z_cw11 (by decide) hK rfl hw hk d h
theorem pt_11_47 (o : z_O q X cc nL own nm ret) {a i v : Nat} (hv : v ≠ 0) (hK : z_K G a = 111) (hw : Cond.fieldLink own i "FlashTrustModel" "record" "[I" ∈ lw_tbl) (hnm : nm = "<init>") (hown : own = "FlashTrustModel") (d : decode cc pc = .ok (.putfield i, 3)) (h : z_V q X nL Q k n (z_sR G 1147 a v) D (pc + 3) lv st) : z_V q X nL Q k n G D pc lv (.ref (z_w q v) :: .ref (z_w q a) :: st) := z_putR o 11 47 rfl z_cw11 tyX11 tyX11_ok nmX11 (by decide) rfl hu_11 hK hv hw (Or.inr ⟨rfl, hnm, hown.symm⟩) rfl rfl d h
theorem gt_11_48 (o : z_O q X cc nL own nm ret) {a i : Nat} (hK : z_K G a = 111) (hw : Cond.fieldLink own i "FlashTrustModel" "awaited" "I" ∈ lw_tbl) (d : decode cc pc = .ok (.getfield i, 3)) (h : z_V q X nL Q k n G D (pc + 3) lv (.int (z_I D 1148 a) :: st)) : z_V q X nL Q k n G D pc lv (.ref (z_w q a) :: st) := z_get o 11 48 rfl z_cw11 (by decide) hK rfl hw d h
theorem pt_11_48 (o : z_O q X cc nL own nm ret) {a i : Nat} {v : Int32} (hK : z_K G a = 111) (hw : Cond.fieldLink own i "FlashTrustModel" "awaited" "I" ∈ lw_tbl) (d : decode cc pc = .ok (.putfield i, 3)) (h : z_V q X nL Q k n G (z_sI D 1148 a v) (pc + 3) lv st) : z_V q X nL Q k n G D pc lv (.int v :: .ref (z_w q a) :: st) := z_putI o 11 48 rfl z_cw11 tyX11 tyX11_ok nmX11 (by decide) rfl hu_11 hK hw (Or.inl rfl) rfl rfl d h
theorem gt_11_49 (o : z_O q X cc nL own nm ret) {a i : Nat} (hK : z_K G a = 111) (hw : Cond.fieldLink own i "FlashTrustModel" "clock" "I" ∈ lw_tbl) (d : decode cc pc = .ok (.getfield i, 3)) (h : z_V q X nL Q k n G D (pc + 3) lv (.int (z_I D 1149 a) :: st)) : z_V q X nL Q k n G D pc lv (.ref (z_w q a) :: st) := z_get o 11 49 rfl z_cw11 (by decide) hK rfl hw d h
theorem pt_11_49 (o : z_O q X cc nL own nm ret) {a i : Nat} {v : Int32} (hK : z_K G a = 111) (hw : Cond.fieldLink own i "FlashTrustModel" "clock" "I" ∈ lw_tbl) (d : decode cc pc = .ok (.putfield i, 3)) (h : z_V q X nL Q k n G (z_sI D 1149 a v) (pc + 3) lv st) : z_V q X nL Q k n G D pc lv (.int v :: .ref (z_w q a) :: st) := z_putI o 11 49 rfl z_cw11 tyX11 tyX11_ok nmX11 (by decide) rfl hu_11 hK hw (Or.inl rfl) rfl rfl d h
theorem gt_11_50 (o : z_O q X cc nL own nm ret) {a i : Nat} (hK : z_K G a = 111) (hw : Cond.fieldLink own i "FlashTrustModel" "lastError" "I" ∈ lw_tbl) (d : decode cc pc = .ok (.getfield i, 3)) (h : z_V q X nL Q k n G D (pc + 3) lv (.int (z_I D 1150 a) :: st)) : z_V q X nL Q k n G D pc lv (.ref (z_w q a) :: st) := z_get o 11 50 rfl z_cw11 (by decide) hK rfl hw d h
theorem pt_11_50 (o : z_O q X cc nL own nm ret) {a i : Nat} {v : Int32} (hK : z_K G a = 111) (hw : Cond.fieldLink own i "FlashTrustModel" "lastError" "I" ∈ lw_tbl) (d : decode cc pc = .ok (.putfield i, 3)) (h : z_V q X nL Q k n G (z_sI D 1150 a v) (pc + 3) lv st) : z_V q X nL Q k n G D pc lv (.int v :: .ref (z_w q a) :: st) := z_putI o 11 50 rfl z_cw11 tyX11 tyX11_ok nmX11 (by decide) rfl hu_11 hK hw (Or.inl rfl) rfl rfl d h
theorem gt_11_51 (o : z_O q X cc nL own nm ret) {a i : Nat} (hK : z_K G a = 111) (hw : Cond.fieldLink own i "FlashTrustModel" "pieceNow" "I" ∈ lw_tbl) (d : decode cc pc = .ok (.getfield i, 3)) (h : z_V q X nL Q k n G D (pc + 3) lv (.int (z_I D 1151 a) :: st)) : z_V q X nL Q k n G D pc lv (.ref (z_w q a) :: st) := z_get o 11 51 rfl z_cw11 (by decide) hK rfl hw d h
theorem pt_11_51 (o : z_O q X cc nL own nm ret) {a i : Nat} {v : Int32} (hK : z_K G a = 111) (hw : Cond.fieldLink own i "FlashTrustModel" "pieceNow" "I" ∈ lw_tbl) (d : decode cc pc = .ok (.putfield i, 3)) (h : z_V q X nL Q k n G (z_sI D 1151 a v) (pc + 3) lv st) : z_V q X nL Q k n G D pc lv (.int v :: .ref (z_w q a) :: st) := z_putI o 11 51 rfl z_cw11 tyX11 tyX11_ok nmX11 (by decide) rfl hu_11 hK hw (Or.inl rfl) rfl rfl d h
theorem gt_11_52 (o : z_O q X cc nL own nm ret) {a i : Nat} (hK : z_K G a = 111) (hw : Cond.fieldLink own i "FlashTrustModel" "wantVersion" "I" ∈ lw_tbl) (d : decode cc pc = .ok (.getfield i, 3)) (h : z_V q X nL Q k n G D (pc + 3) lv (.int (z_I D 1152 a) :: st)) : z_V q X nL Q k n G D pc lv (.ref (z_w q a) :: st) := z_get o 11 52 rfl z_cw11 (by decide) hK rfl hw d h
theorem pt_11_52 (o : z_O q X cc nL own nm ret) {a i : Nat} {v : Int32} (hK : z_K G a = 111) (hw : Cond.fieldLink own i "FlashTrustModel" "wantVersion" "I" ∈ lw_tbl) (d : decode cc pc = .ok (.putfield i, 3)) (h : z_V q X nL Q k n G (z_sI D 1152 a v) (pc + 3) lv st) : z_V q X nL Q k n G D pc lv (.int v :: .ref (z_w q a) :: st) := z_putI o 11 52 rfl z_cw11 tyX11 tyX11_ok nmX11 (by decide) rfl hu_11 hK hw (Or.inl rfl) rfl rfl d h
theorem gt_11_53 (o : z_O q X cc nL own nm ret) {a i : Nat} (hK : z_K G a = 111) (hw : Cond.fieldLink own i "FlashTrustModel" "wantLength" "I" ∈ lw_tbl) (d : decode cc pc = .ok (.getfield i, 3)) (h : z_V q X nL Q k n G D (pc + 3) lv (.int (z_I D 1153 a) :: st)) : z_V q X nL Q k n G D pc lv (.ref (z_w q a) :: st) := z_get o 11 53 rfl z_cw11 (by decide) hK rfl hw d h
theorem pt_11_53 (o : z_O q X cc nL own nm ret) {a i : Nat} {v : Int32} (hK : z_K G a = 111) (hw : Cond.fieldLink own i "FlashTrustModel" "wantLength" "I" ∈ lw_tbl) (d : decode cc pc = .ok (.putfield i, 3)) (h : z_V q X nL Q k n G (z_sI D 1153 a v) (pc + 3) lv st) : z_V q X nL Q k n G D pc lv (.int v :: .ref (z_w q a) :: st) := z_putI o 11 53 rfl z_cw11 tyX11 tyX11_ok nmX11 (by decide) rfl hu_11 hK hw (Or.inl rfl) rfl rfl d h
theorem gt_11_54 (o : z_O q X cc nL own nm ret) {a i : Nat} (hK : z_K G a = 111) (hw : Cond.fieldLink own i "FlashTrustModel" "wantDigest" "J" ∈ lw_tbl) (d : decode cc pc = .ok (.getfield i, 3)) (h : z_V q X nL Q k n G D (pc + 3) lv (.long (z_J D 1154 a) :: st)) : z_V q X nL Q k n G D pc lv (.ref (z_w q a) :: st) := z_get o 11 54 rfl z_cw11 (by decide) hK rfl hw d h
theorem pt_11_54 (o : z_O q X cc nL own nm ret) {a i : Nat} {v : Int64} (hK : z_K G a = 111) (hw : Cond.fieldLink own i "FlashTrustModel" "wantDigest" "J" ∈ lw_tbl) (d : decode cc pc = .ok (.putfield i, 3)) (h : z_V q X nL Q k n G (z_sJ D 1154 a v) (pc + 3) lv st) : z_V q X nL Q k n G D pc lv (.long v :: .ref (z_w q a) :: st) := z_putJ o 11 54 rfl z_cw11 tyX11 tyX11_ok nmX11 (by decide) rfl hu_11 hK hw (Or.inl rfl) rfl rfl d h
theorem gt_11_55 (o : z_O q X cc nL own nm ret) {a i : Nat} (hK : z_K G a = 111) (hw : Cond.fieldLink own i "FlashTrustModel" "came" "[I" ∈ lw_tbl) (hk : z_K G (z_R G 1155 a) ≠ 0) (d : decode cc pc = .ok (.getfield i, 3)) (h : z_V q X nL Q k n G D (pc + 3) lv (.ref (z_w q (z_R G 1155 a)) :: st)) : z_V q X nL Q k n G D pc lv (.ref (z_w q a) :: st) := z_getR o 11 55 1155 rfl z_cw11 (by decide) hK rfl hw hk d h
theorem pt_11_55 (o : z_O q X cc nL own nm ret) {a i v : Nat} (hv : v ≠ 0) (hK : z_K G a = 111) (hw : Cond.fieldLink own i "FlashTrustModel" "came" "[I" ∈ lw_tbl) (hnm : nm = "<init>") (hown : own = "FlashTrustModel") (d : decode cc pc = .ok (.putfield i, 3)) (h : z_V q X nL Q k n (z_sR G 1155 a v) D (pc + 3) lv st) : z_V q X nL Q k n G D pc lv (.ref (z_w q v) :: .ref (z_w q a) :: st) := z_putR o 11 55 rfl z_cw11 tyX11 tyX11_ok nmX11 (by decide) rfl hu_11 hK hv hw (Or.inr ⟨rfl, hnm, hown.symm⟩) rfl rfl d h
theorem gt_11_56 (o : z_O q X cc nL own nm ret) {a i : Nat} (hK : z_K G a = 111) (hw : Cond.fieldLink own i "FlashTrustModel" "cameSize" "I" ∈ lw_tbl) (d : decode cc pc = .ok (.getfield i, 3)) (h : z_V q X nL Q k n G D (pc + 3) lv (.int (z_I D 1156 a) :: st)) : z_V q X nL Q k n G D pc lv (.ref (z_w q a) :: st) := z_get o 11 56 rfl z_cw11 (by decide) hK rfl hw d h
theorem pt_11_56 (o : z_O q X cc nL own nm ret) {a i : Nat} {v : Int32} (hK : z_K G a = 111) (hw : Cond.fieldLink own i "FlashTrustModel" "cameSize" "I" ∈ lw_tbl) (d : decode cc pc = .ok (.putfield i, 3)) (h : z_V q X nL Q k n G (z_sI D 1156 a v) (pc + 3) lv st) : z_V q X nL Q k n G D pc lv (.int v :: .ref (z_w q a) :: st) := z_putI o 11 56 rfl z_cw11 tyX11 tyX11_ok nmX11 (by decide) rfl hu_11 hK hw (Or.inl rfl) rfl rfl d h
theorem gt_11_57 (o : z_O q X cc nL own nm ret) {a i : Nat} (hK : z_K G a = 111) (hw : Cond.fieldLink own i "FlashTrustModel" "trustedKeys" "I" ∈ lw_tbl) (d : decode cc pc = .ok (.getfield i, 3)) (h : z_V q X nL Q k n G D (pc + 3) lv (.int (z_I D 1157 a) :: st)) : z_V q X nL Q k n G D pc lv (.ref (z_w q a) :: st) := z_get o 11 57 rfl z_cw11 (by decide) hK rfl hw d h
theorem pt_11_57 (o : z_O q X cc nL own nm ret) {a i : Nat} {v : Int32} (hK : z_K G a = 111) (hw : Cond.fieldLink own i "FlashTrustModel" "trustedKeys" "I" ∈ lw_tbl) (d : decode cc pc = .ok (.putfield i, 3)) (h : z_V q X nL Q k n G (z_sI D 1157 a v) (pc + 3) lv st) : z_V q X nL Q k n G D pc lv (.int v :: .ref (z_w q a) :: st) := z_putI o 11 57 rfl z_cw11 tyX11 tyX11_ok nmX11 (by decide) rfl hu_11 hK hw (Or.inl rfl) rfl rfl d h
theorem gt_11_58 (o : z_O q X cc nL own nm ret) {a i : Nat} (hK : z_K G a = 111) (hw : Cond.fieldLink own i "FlashTrustModel" "trustedThreshold" "I" ∈ lw_tbl) (d : decode cc pc = .ok (.getfield i, 3)) (h : z_V q X nL Q k n G D (pc + 3) lv (.int (z_I D 1158 a) :: st)) : z_V q X nL Q k n G D pc lv (.ref (z_w q a) :: st) := z_get o 11 58 rfl z_cw11 (by decide) hK rfl hw d h
theorem pt_11_58 (o : z_O q X cc nL own nm ret) {a i : Nat} {v : Int32} (hK : z_K G a = 111) (hw : Cond.fieldLink own i "FlashTrustModel" "trustedThreshold" "I" ∈ lw_tbl) (d : decode cc pc = .ok (.putfield i, 3)) (h : z_V q X nL Q k n G (z_sI D 1158 a v) (pc + 3) lv st) : z_V q X nL Q k n G D pc lv (.int v :: .ref (z_w q a) :: st) := z_putI o 11 58 rfl z_cw11 tyX11 tyX11_ok nmX11 (by decide) rfl hu_11 hK hw (Or.inl rfl) rfl rfl d h
theorem gt_11_59 (o : z_O q X cc nL own nm ret) {a i : Nat} (hK : z_K G a = 111) (hw : Cond.fieldLink own i "FlashTrustModel" "wasThere" "Z" ∈ lw_tbl) (d : decode cc pc = .ok (.getfield i, 3)) (h : z_V q X nL Q k n G D (pc + 3) lv (.int (z_I D 1159 a) :: st)) : z_V q X nL Q k n G D pc lv (.ref (z_w q a) :: st) := z_get o 11 59 rfl z_cw11 (by decide) hK rfl hw d h
theorem pt_11_59 (o : z_O q X cc nL own nm ret) {a i : Nat} {v : Int32} (hK : z_K G a = 111) (hw : Cond.fieldLink own i "FlashTrustModel" "wasThere" "Z" ∈ lw_tbl) (hv : v = 0 ∨ v = 1) (d : decode cc pc = .ok (.putfield i, 3)) (h : z_V q X nL Q k n G (z_sI D 1159 a v) (pc + 3) lv st) : z_V q X nL Q k n G D pc lv (.int v :: .ref (z_w q a) :: st) := z_putI o 11 59 rfl z_cw11 tyX11 tyX11_ok nmX11 (by decide) rfl hu_11 hK hw (Or.inl rfl) (z_nb hv) (z_fb hv) d h
theorem gt_11_60 (o : z_O q X cc nL own nm ret) {a i : Nat} (hK : z_K G a = 111) (hw : Cond.fieldLink own i "FlashTrustModel" "wasVersion" "I" ∈ lw_tbl) (d : decode cc pc = .ok (.getfield i, 3)) (h : z_V q X nL Q k n G D (pc + 3) lv (.int (z_I D 1160 a) :: st)) : z_V q X nL Q k n G D pc lv (.ref (z_w q a) :: st) := z_get o 11 60 rfl z_cw11 (by decide) hK rfl hw d h
theorem pt_11_60 (o : z_O q X cc nL own nm ret) {a i : Nat} {v : Int32} (hK : z_K G a = 111) (hw : Cond.fieldLink own i "FlashTrustModel" "wasVersion" "I" ∈ lw_tbl) (d : decode cc pc = .ok (.putfield i, 3)) (h : z_V q X nL Q k n G (z_sI D 1160 a v) (pc + 3) lv st) : z_V q X nL Q k n G D pc lv (.int v :: .ref (z_w q a) :: st) := z_putI o 11 60 rfl z_cw11 tyX11 tyX11_ok nmX11 (by decide) rfl hu_11 hK hw (Or.inl rfl) rfl rfl d h
theorem gt_11_61 (o : z_O q X cc nL own nm ret) {a i : Nat} (hK : z_K G a = 111) (hw : Cond.fieldLink own i "FlashTrustModel" "wasTold" "I" ∈ lw_tbl) (d : decode cc pc = .ok (.getfield i, 3)) (h : z_V q X nL Q k n G D (pc + 3) lv (.int (z_I D 1161 a) :: st)) : z_V q X nL Q k n G D pc lv (.ref (z_w q a) :: st) := z_get o 11 61 rfl z_cw11 (by decide) hK rfl hw d h
theorem pt_11_61 (o : z_O q X cc nL own nm ret) {a i : Nat} {v : Int32} (hK : z_K G a = 111) (hw : Cond.fieldLink own i "FlashTrustModel" "wasTold" "I" ∈ lw_tbl) (d : decode cc pc = .ok (.putfield i, 3)) (h : z_V q X nL Q k n G (z_sI D 1161 a v) (pc + 3) lv st) : z_V q X nL Q k n G D pc lv (.int v :: .ref (z_w q a) :: st) := z_putI o 11 61 rfl z_cw11 tyX11 tyX11_ok nmX11 (by decide) rfl hu_11 hK hw (Or.inl rfl) rfl rfl d h
theorem gt_11_62 (o : z_O q X cc nL own nm ret) {a i : Nat} (hK : z_K G a = 111) (hw : Cond.fieldLink own i "FlashTrustModel" "wasDigest" "J" ∈ lw_tbl) (d : decode cc pc = .ok (.getfield i, 3)) (h : z_V q X nL Q k n G D (pc + 3) lv (.long (z_J D 1162 a) :: st)) : z_V q X nL Q k n G D pc lv (.ref (z_w q a) :: st) := z_get o 11 62 rfl z_cw11 (by decide) hK rfl hw d h
theorem pt_11_62 (o : z_O q X cc nL own nm ret) {a i : Nat} {v : Int64} (hK : z_K G a = 111) (hw : Cond.fieldLink own i "FlashTrustModel" "wasDigest" "J" ∈ lw_tbl) (d : decode cc pc = .ok (.putfield i, 3)) (h : z_V q X nL Q k n G (z_sJ D 1162 a v) (pc + 3) lv st) : z_V q X nL Q k n G D pc lv (.long v :: .ref (z_w q a) :: st) := z_putJ o 11 62 rfl z_cw11 tyX11 tyX11_ok nmX11 (by decide) rfl hu_11 hK hw (Or.inl rfl) rfl rfl d h
theorem gt_11_63 (o : z_O q X cc nL own nm ret) {a i : Nat} (hK : z_K G a = 111) (hw : Cond.fieldLink own i "FlashTrustModel" "planKeys" "[I" ∈ lw_tbl) (hk : z_K G (z_R G 1163 a) ≠ 0) (d : decode cc pc = .ok (.getfield i, 3)) (h : z_V q X nL Q k n G D (pc + 3) lv (.ref (z_w q (z_R G 1163 a)) :: st)) : z_V q X nL Q k n G D pc lv (.ref (z_w q a) :: st) := z_getR o 11 63 1163 rfl z_cw11 (by decide) hK rfl hw hk d h
theorem pt_11_63 (o : z_O q X cc nL own nm ret) {a i v : Nat} (hv : v ≠ 0) (hK : z_K G a = 111) (hw : Cond.fieldLink own i "FlashTrustModel" "planKeys" "[I" ∈ lw_tbl) (hnm : nm = "<init>") (hown : own = "FlashTrustModel") (d : decode cc pc = .ok (.putfield i, 3)) (h : z_V q X nL Q k n (z_sR G 1163 a v) D (pc + 3) lv st) : z_V q X nL Q k n G D pc lv (.ref (z_w q v) :: .ref (z_w q a) :: st) := z_putR o 11 63 rfl z_cw11 tyX11 tyX11_ok nmX11 (by decide) rfl hu_11 hK hv hw (Or.inr ⟨rfl, hnm, hown.symm⟩) rfl rfl d h
theorem gt_11_64 (o : z_O q X cc nL own nm ret) {a i : Nat} (hK : z_K G a = 111) (hw : Cond.fieldLink own i "FlashTrustModel" "planThreshold" "[I" ∈ lw_tbl) (hk : z_K G (z_R G 1164 a) ≠ 0) (d : decode cc pc = .ok (.getfield i, 3)) (h : z_V q X nL Q k n G D (pc + 3) lv (.ref (z_w q (z_R G 1164 a)) :: st)) : z_V q X nL Q k n G D pc lv (.ref (z_w q a) :: st) := z_getR o 11 64 1164 rfl z_cw11 (by decide) hK rfl hw hk d h
theorem pt_11_64 (o : z_O q X cc nL own nm ret) {a i v : Nat} (hv : v ≠ 0) (hK : z_K G a = 111) (hw : Cond.fieldLink own i "FlashTrustModel" "planThreshold" "[I" ∈ lw_tbl) (hnm : nm = "<init>") (hown : own = "FlashTrustModel") (d : decode cc pc = .ok (.putfield i, 3)) (h : z_V q X nL Q k n (z_sR G 1164 a v) D (pc + 3) lv st) : z_V q X nL Q k n G D pc lv (.ref (z_w q v) :: .ref (z_w q a) :: st) := z_putR o 11 64 rfl z_cw11 tyX11 tyX11_ok nmX11 (by decide) rfl hu_11 hK hv hw (Or.inr ⟨rfl, hnm, hown.symm⟩) rfl rfl d h
theorem gt_11_65 (o : z_O q X cc nL own nm ret) {a i : Nat} (hK : z_K G a = 111) (hw : Cond.fieldLink own i "FlashTrustModel" "planImages" "I" ∈ lw_tbl) (d : decode cc pc = .ok (.getfield i, 3)) (h : z_V q X nL Q k n G D (pc + 3) lv (.int (z_I D 1165 a) :: st)) : z_V q X nL Q k n G D pc lv (.ref (z_w q a) :: st) := z_get o 11 65 rfl z_cw11 (by decide) hK rfl hw d h
theorem pt_11_65 (o : z_O q X cc nL own nm ret) {a i : Nat} {v : Int32} (hK : z_K G a = 111) (hw : Cond.fieldLink own i "FlashTrustModel" "planImages" "I" ∈ lw_tbl) (d : decode cc pc = .ok (.putfield i, 3)) (h : z_V q X nL Q k n G (z_sI D 1165 a v) (pc + 3) lv st) : z_V q X nL Q k n G D pc lv (.int v :: .ref (z_w q a) :: st) := z_putI o 11 65 rfl z_cw11 tyX11 tyX11_ok nmX11 (by decide) rfl hu_11 hK hw (Or.inl rfl) rfl rfl d h
theorem gt_11_66 (o : z_O q X cc nL own nm ret) {a i : Nat} (hK : z_K G a = 111) (hw : Cond.fieldLink own i "FlashTrustModel" "planVersion" "[I" ∈ lw_tbl) (hk : z_K G (z_R G 1166 a) ≠ 0) (d : decode cc pc = .ok (.getfield i, 3)) (h : z_V q X nL Q k n G D (pc + 3) lv (.ref (z_w q (z_R G 1166 a)) :: st)) : z_V q X nL Q k n G D pc lv (.ref (z_w q a) :: st) := z_getR o 11 66 1166 rfl z_cw11 (by decide) hK rfl hw hk d h
theorem pt_11_66 (o : z_O q X cc nL own nm ret) {a i v : Nat} (hv : v ≠ 0) (hK : z_K G a = 111) (hw : Cond.fieldLink own i "FlashTrustModel" "planVersion" "[I" ∈ lw_tbl) (hnm : nm = "<init>") (hown : own = "FlashTrustModel") (d : decode cc pc = .ok (.putfield i, 3)) (h : z_V q X nL Q k n (z_sR G 1166 a v) D (pc + 3) lv st) : z_V q X nL Q k n G D pc lv (.ref (z_w q v) :: .ref (z_w q a) :: st) := z_putR o 11 66 rfl z_cw11 tyX11 tyX11_ok nmX11 (by decide) rfl hu_11 hK hv hw (Or.inr ⟨rfl, hnm, hown.symm⟩) rfl rfl d h
theorem gt_11_67 (o : z_O q X cc nL own nm ret) {a i : Nat} (hK : z_K G a = 111) (hw : Cond.fieldLink own i "FlashTrustModel" "planLength" "[I" ∈ lw_tbl) (hk : z_K G (z_R G 1167 a) ≠ 0) (d : decode cc pc = .ok (.getfield i, 3)) (h : z_V q X nL Q k n G D (pc + 3) lv (.ref (z_w q (z_R G 1167 a)) :: st)) : z_V q X nL Q k n G D pc lv (.ref (z_w q a) :: st) := z_getR o 11 67 1167 rfl z_cw11 (by decide) hK rfl hw hk d h
theorem pt_11_67 (o : z_O q X cc nL own nm ret) {a i v : Nat} (hv : v ≠ 0) (hK : z_K G a = 111) (hw : Cond.fieldLink own i "FlashTrustModel" "planLength" "[I" ∈ lw_tbl) (hnm : nm = "<init>") (hown : own = "FlashTrustModel") (d : decode cc pc = .ok (.putfield i, 3)) (h : z_V q X nL Q k n (z_sR G 1167 a v) D (pc + 3) lv st) : z_V q X nL Q k n G D pc lv (.ref (z_w q v) :: .ref (z_w q a) :: st) := z_putR o 11 67 rfl z_cw11 tyX11 tyX11_ok nmX11 (by decide) rfl hu_11 hK hv hw (Or.inr ⟨rfl, hnm, hown.symm⟩) rfl rfl d h
theorem gt_11_68 (o : z_O q X cc nL own nm ret) {a i : Nat} (hK : z_K G a = 111) (hw : Cond.fieldLink own i "FlashTrustModel" "planSeed" "[I" ∈ lw_tbl) (hk : z_K G (z_R G 1168 a) ≠ 0) (d : decode cc pc = .ok (.getfield i, 3)) (h : z_V q X nL Q k n G D (pc + 3) lv (.ref (z_w q (z_R G 1168 a)) :: st)) : z_V q X nL Q k n G D pc lv (.ref (z_w q a) :: st) := z_getR o 11 68 1168 rfl z_cw11 (by decide) hK rfl hw hk d h
theorem pt_11_68 (o : z_O q X cc nL own nm ret) {a i v : Nat} (hv : v ≠ 0) (hK : z_K G a = 111) (hw : Cond.fieldLink own i "FlashTrustModel" "planSeed" "[I" ∈ lw_tbl) (hnm : nm = "<init>") (hown : own = "FlashTrustModel") (d : decode cc pc = .ok (.putfield i, 3)) (h : z_V q X nL Q k n (z_sR G 1168 a v) D (pc + 3) lv st) : z_V q X nL Q k n G D pc lv (.ref (z_w q v) :: .ref (z_w q a) :: st) := z_putR o 11 68 rfl z_cw11 tyX11 tyX11_ok nmX11 (by decide) rfl hu_11 hK hv hw (Or.inr ⟨rfl, hnm, hown.symm⟩) rfl rfl d h
theorem gt_11_69 (o : z_O q X cc nL own nm ret) {a i : Nat} (hK : z_K G a = 111) (hw : Cond.fieldLink own i "FlashTrustModel" "draft" "[I" ∈ lw_tbl) (hk : z_K G (z_R G 1169 a) ≠ 0) (d : decode cc pc = .ok (.getfield i, 3)) (h : z_V q X nL Q k n G D (pc + 3) lv (.ref (z_w q (z_R G 1169 a)) :: st)) : z_V q X nL Q k n G D pc lv (.ref (z_w q a) :: st) := z_getR o 11 69 1169 rfl z_cw11 (by decide) hK rfl hw hk d h
theorem pt_11_69 (o : z_O q X cc nL own nm ret) {a i v : Nat} (hv : v ≠ 0) (hK : z_K G a = 111) (hw : Cond.fieldLink own i "FlashTrustModel" "draft" "[I" ∈ lw_tbl) (hnm : nm = "<init>") (hown : own = "FlashTrustModel") (d : decode cc pc = .ok (.putfield i, 3)) (h : z_V q X nL Q k n (z_sR G 1169 a v) D (pc + 3) lv st) : z_V q X nL Q k n G D pc lv (.ref (z_w q v) :: .ref (z_w q a) :: st) := z_putR o 11 69 rfl z_cw11 tyX11 tyX11_ok nmX11 (by decide) rfl hu_11 hK hv hw (Or.inr ⟨rfl, hnm, hown.symm⟩) rfl rfl d h
theorem gt_11_70 (o : z_O q X cc nL own nm ret) {a i : Nat} (hK : z_K G a = 111) (hw : Cond.fieldLink own i "FlashTrustModel" "draftRole" "I" ∈ lw_tbl) (d : decode cc pc = .ok (.getfield i, 3)) (h : z_V q X nL Q k n G D (pc + 3) lv (.int (z_I D 1170 a) :: st)) : z_V q X nL Q k n G D pc lv (.ref (z_w q a) :: st) := z_get o 11 70 rfl z_cw11 (by decide) hK rfl hw d h
theorem pt_11_70 (o : z_O q X cc nL own nm ret) {a i : Nat} {v : Int32} (hK : z_K G a = 111) (hw : Cond.fieldLink own i "FlashTrustModel" "draftRole" "I" ∈ lw_tbl) (d : decode cc pc = .ok (.putfield i, 3)) (h : z_V q X nL Q k n G (z_sI D 1170 a v) (pc + 3) lv st) : z_V q X nL Q k n G D pc lv (.int v :: .ref (z_w q a) :: st) := z_putI o 11 70 rfl z_cw11 tyX11 tyX11_ok nmX11 (by decide) rfl hu_11 hK hw (Or.inl rfl) rfl rfl d h
theorem gt_11_71 (o : z_O q X cc nL own nm ret) {a i : Nat} (hK : z_K G a = 111) (hw : Cond.fieldLink own i "FlashTrustModel" "draftSize" "I" ∈ lw_tbl) (d : decode cc pc = .ok (.getfield i, 3)) (h : z_V q X nL Q k n G D (pc + 3) lv (.int (z_I D 1171 a) :: st)) : z_V q X nL Q k n G D pc lv (.ref (z_w q a) :: st) := z_get o 11 71 rfl z_cw11 (by decide) hK rfl hw d h
theorem pt_11_71 (o : z_O q X cc nL own nm ret) {a i : Nat} {v : Int32} (hK : z_K G a = 111) (hw : Cond.fieldLink own i "FlashTrustModel" "draftSize" "I" ∈ lw_tbl) (d : decode cc pc = .ok (.putfield i, 3)) (h : z_V q X nL Q k n G (z_sI D 1171 a v) (pc + 3) lv st) : z_V q X nL Q k n G D pc lv (.int v :: .ref (z_w q a) :: st) := z_putI o 11 71 rfl z_cw11 tyX11 tyX11_ok nmX11 (by decide) rfl hu_11 hK hw (Or.inl rfl) rfl rfl d h
theorem gt_11_72 (o : z_O q X cc nL own nm ret) {a i : Nat} (hK : z_K G a = 111) (hw : Cond.fieldLink own i "FlashTrustModel" "draftKeys" "I" ∈ lw_tbl) (d : decode cc pc = .ok (.getfield i, 3)) (h : z_V q X nL Q k n G D (pc + 3) lv (.int (z_I D 1172 a) :: st)) : z_V q X nL Q k n G D pc lv (.ref (z_w q a) :: st) := z_get o 11 72 rfl z_cw11 (by decide) hK rfl hw d h
theorem pt_11_72 (o : z_O q X cc nL own nm ret) {a i : Nat} {v : Int32} (hK : z_K G a = 111) (hw : Cond.fieldLink own i "FlashTrustModel" "draftKeys" "I" ∈ lw_tbl) (d : decode cc pc = .ok (.putfield i, 3)) (h : z_V q X nL Q k n G (z_sI D 1172 a v) (pc + 3) lv st) : z_V q X nL Q k n G D pc lv (.int v :: .ref (z_w q a) :: st) := z_putI o 11 72 rfl z_cw11 tyX11 tyX11_ok nmX11 (by decide) rfl hu_11 hK hw (Or.inl rfl) rfl rfl d h
theorem gt_11_73 (o : z_O q X cc nL own nm ret) {a i : Nat} (hK : z_K G a = 111) (hw : Cond.fieldLink own i "FlashTrustModel" "lastVersion" "[I" ∈ lw_tbl) (hk : z_K G (z_R G 1173 a) ≠ 0) (d : decode cc pc = .ok (.getfield i, 3)) (h : z_V q X nL Q k n G D (pc + 3) lv (.ref (z_w q (z_R G 1173 a)) :: st)) : z_V q X nL Q k n G D pc lv (.ref (z_w q a) :: st) := z_getR o 11 73 1173 rfl z_cw11 (by decide) hK rfl hw hk d h
theorem pt_11_73 (o : z_O q X cc nL own nm ret) {a i v : Nat} (hv : v ≠ 0) (hK : z_K G a = 111) (hw : Cond.fieldLink own i "FlashTrustModel" "lastVersion" "[I" ∈ lw_tbl) (hnm : nm = "<init>") (hown : own = "FlashTrustModel") (d : decode cc pc = .ok (.putfield i, 3)) (h : z_V q X nL Q k n (z_sR G 1173 a v) D (pc + 3) lv st) : z_V q X nL Q k n G D pc lv (.ref (z_w q v) :: .ref (z_w q a) :: st) := z_putR o 11 73 rfl z_cw11 tyX11 tyX11_ok nmX11 (by decide) rfl hu_11 hK hv hw (Or.inr ⟨rfl, hnm, hown.symm⟩) rfl rfl d h
theorem gt_11_74 (o : z_O q X cc nL own nm ret) {a i : Nat} (hK : z_K G a = 111) (hw : Cond.fieldLink own i "FlashTrustModel" "lastDigest" "[J" ∈ lw_tbl) (hk : z_K G (z_R G 1174 a) ≠ 0) (d : decode cc pc = .ok (.getfield i, 3)) (h : z_V q X nL Q k n G D (pc + 3) lv (.ref (z_w q (z_R G 1174 a)) :: st)) : z_V q X nL Q k n G D pc lv (.ref (z_w q a) :: st) := z_getR o 11 74 1174 rfl z_cw11 (by decide) hK rfl hw hk d h
theorem pt_11_74 (o : z_O q X cc nL own nm ret) {a i v : Nat} (hv : v ≠ 0) (hK : z_K G a = 111) (hw : Cond.fieldLink own i "FlashTrustModel" "lastDigest" "[J" ∈ lw_tbl) (hnm : nm = "<init>") (hown : own = "FlashTrustModel") (d : decode cc pc = .ok (.putfield i, 3)) (h : z_V q X nL Q k n (z_sR G 1174 a v) D (pc + 3) lv st) : z_V q X nL Q k n G D pc lv (.ref (z_w q v) :: .ref (z_w q a) :: st) := z_putR o 11 74 rfl z_cw11 tyX11 tyX11_ok nmX11 (by decide) rfl hu_11 hK hv hw (Or.inr ⟨rfl, hnm, hown.symm⟩) rfl rfl d h
theorem v_mmax (o : z_O q X cc nL own nm ret) {i : Nat} {x y : Int32} {R0 : Room} (hw : Cond.methodLink own i Lib.Math.max.name ∈ lw_tbl) (hX : x_R X = R0) (hr : 1 ≤ R0.frames ∧ 21 ≤ R0.locals ∧ k ≤ R0.cells ∧ n ≤ R0.slots) (hs : (st.map fun v => v.category).sum ≤ 8) (d : decode cc pc = .ok (.invokestatic i, 3)) (h : z_V q X nL Q k n G D (pc + 3) lv (.int (if x < y then y else x) :: st)) : z_V q X nL Q k n G D pc lv (.int y :: .int x :: st) :=
  fun H locs ls hR hl hv => va_mmax o.ex o.cd (o.ml.trans hv.1.symm) o.ow (o.tw hw rfl) (o.tw (z_in1 30 rfl) rfl) (o.tw (z_in1 3 rfl) rfl) (o.tw (z_in1 31 rfl) rfl) (by rw [hX]; exact hr.1) (by rw [hX]; exact Nat.le_trans (Nat.add_le_add_right hs 13) hr.2.1) (by rw [hX]; exact hr.2.2.1) (by rw [hX]; exact hr.2.2.2) d (h H locs ls hR hl hv)
theorem v_mmin (o : z_O q X cc nL own nm ret) {i : Nat} {x y : Int32} {R0 : Room} (hw : Cond.methodLink own i Lib.Math.min.name ∈ lw_tbl) (hX : x_R X = R0) (hr : 1 ≤ R0.frames ∧ 21 ≤ R0.locals ∧ k ≤ R0.cells ∧ n ≤ R0.slots) (hs : (st.map fun v => v.category).sum ≤ 8) (d : decode cc pc = .ok (.invokestatic i, 3)) (h : z_V q X nL Q k n G D (pc + 3) lv (.int (if y < x then y else x) :: st)) : z_V q X nL Q k n G D pc lv (.int y :: .int x :: st) :=
  fun H locs ls hR hl hv => va_mmin o.ex o.cd (o.ml.trans hv.1.symm) o.ow (o.tw hw rfl) (o.tw (z_in1 43 rfl) rfl) (o.tw (z_in1 3 rfl) rfl) (o.tw (z_in1 44 rfl) rfl) (by rw [hX]; exact hr.1) (by rw [hX]; exact Nat.le_trans (Nat.add_le_add_right hs 13) hr.2.1) (by rw [hX]; exact hr.2.2.1) (by rw [hX]; exact hr.2.2.2) d (h H locs ls hR hl hv)
end ZG
theorem yw_X0_init : z_yw yX0_init cX0_init 4 none 3 := ⟨z_in2 9 rfl, z_in1 9 rfl, by decide +kernel⟩
theorem wi_X0_init : Cond.instanceMethod yX0_init ∈ lw_tbl := z_in2 8 rfl
theorem yw_X0_look : z_yw yX0_look cX0_look 8 none 0 := ⟨z_in4 76 rfl, z_in1 9 rfl, by decide +kernel⟩
theorem wi_X0_look : Cond.instanceMethod yX0_look ∈ lw_tbl := z_in4 74 rfl
theorem ws_X0_look : Cond.selects yX0_look.cls yX0_look yX0_look ∈ lw_tbl := z_in4 75 rfl
theorem yw_X1_init : z_yw yX1_init cX1_init 4 none 1 := ⟨z_in1 129 rfl, z_in1 6 rfl, by decide +kernel⟩
theorem wi_X1_init : Cond.instanceMethod yX1_init ∈ lw_tbl := z_in1 128 rfl
theorem yw_X1_isDown : z_yw yX1_isDown cX1_isDown 1 (some .boolean) 0 := ⟨z_in3 187 rfl, z_in1 6 rfl, by decide +kernel⟩
theorem wi_X1_isDown : Cond.instanceMethod yX1_isDown ∈ lw_tbl := z_in3 185 rfl
theorem ws_X1_isDown : Cond.selects yX1_isDown.cls yX1_isDown yX1_isDown ∈ lw_tbl := z_in3 186 rfl
theorem yw_X1_switchOn : z_yw yX1_switchOn cX1_switchOn 1 none 0 := ⟨z_in4 203 rfl, z_in1 6 rfl, by decide +kernel⟩
theorem wi_X1_switchOn : Cond.instanceMethod yX1_switchOn ∈ lw_tbl := z_in4 201 rfl
theorem ws_X1_switchOn : Cond.selects yX1_switchOn.cls yX1_switchOn yX1_switchOn ∈ lw_tbl := z_in4 202 rfl
theorem yw_X1_tellCut : z_yw yX1_tellCut cX1_tellCut 3 none 2 := ⟨z_in4 195 rfl, z_in1 6 rfl, by decide +kernel⟩
theorem wi_X1_tellCut : Cond.instanceMethod yX1_tellCut ∈ lw_tbl := z_in4 193 rfl
theorem ws_X1_tellCut : Cond.selects yX1_tellCut.cls yX1_tellCut yX1_tellCut ∈ lw_tbl := z_in4 194 rfl
theorem yw_X1_slotStart : z_yw yX1_slotStart cX1_slotStart 1 (some .int) 1 := ⟨z_in1 139 rfl, z_in1 6 rfl, by decide +kernel⟩
theorem ws_X1_slotStart : Cond.static yX1_slotStart ∈ lw_tbl := z_in1 138 rfl
theorem yw_X1_write : z_yw yX1_write cX1_write 4 none 3 := ⟨z_in4 71 rfl, z_in1 6 rfl, by decide +kernel⟩
theorem wi_X1_write : Cond.instanceMethod yX1_write ∈ lw_tbl := z_in4 69 rfl
theorem ws_X1_write : Cond.selects yX1_write.cls yX1_write yX1_write ∈ lw_tbl := z_in4 70 rfl
theorem yw_X1_burn : z_yw yX1_burn cX1_burn 6 none 3 := ⟨z_in2 173 rfl, z_in1 6 rfl, by decide +kernel⟩
theorem wi_X1_burn : Cond.instanceMethod yX1_burn ∈ lw_tbl := z_in2 171 rfl
theorem ws_X1_burn : Cond.selects yX1_burn.cls yX1_burn yX1_burn ∈ lw_tbl := z_in2 172 rfl
theorem yw_X1_erase : z_yw yX1_erase cX1_erase 6 none 1 := ⟨z_in4 58 rfl, z_in1 6 rfl, by decide +kernel⟩
theorem wi_X1_erase : Cond.instanceMethod yX1_erase ∈ lw_tbl := z_in4 56 rfl
theorem ws_X1_erase : Cond.selects yX1_erase.cls yX1_erase yX1_erase ∈ lw_tbl := z_in4 57 rfl
theorem yw_X1_powerHolds : z_yw yX1_powerHolds cX1_powerHolds 1 (some .boolean) 0 := ⟨z_in4 62 rfl, z_in1 6 rfl, by decide +kernel⟩
theorem wi_X1_powerHolds : Cond.instanceMethod yX1_powerHolds ∈ lw_tbl := z_in4 61 rfl
theorem ws_X1_powerHolds : Cond.selects yX1_powerHolds.cls yX1_powerHolds yX1_powerHolds ∈ lw_tbl := List.mem_append_left _ (List.mem_map.mpr ⟨_, List.mem_of_getElem? (i := 18) (by rfl), rfl⟩)
theorem yw_X1_writeAll : z_yw yX1_writeAll cX1_writeAll 4 none 2 := ⟨z_in4 66 rfl, z_in1 6 rfl, by decide +kernel⟩
theorem wi_X1_writeAll : Cond.instanceMethod yX1_writeAll ∈ lw_tbl := z_in4 64 rfl
theorem ws_X1_writeAll : Cond.selects yX1_writeAll.cls yX1_writeAll yX1_writeAll ∈ lw_tbl := z_in4 65 rfl
theorem yw_X1_eraseSlot : z_yw yX1_eraseSlot cX1_eraseSlot 3 none 1 := ⟨z_in4 155 rfl, z_in1 6 rfl, by decide +kernel⟩
theorem wi_X1_eraseSlot : Cond.instanceMethod yX1_eraseSlot ∈ lw_tbl := z_in4 153 rfl
theorem ws_X1_eraseSlot : Cond.selects yX1_eraseSlot.cls yX1_eraseSlot yX1_eraseSlot ∈ lw_tbl := z_in4 154 rfl
theorem yw_X1_isBlank : z_yw yX1_isBlank cX1_isBlank 3 (some .boolean) 1 := ⟨z_in4 114 rfl, z_in1 6 rfl, by decide +kernel⟩
theorem wi_X1_isBlank : Cond.instanceMethod yX1_isBlank ∈ lw_tbl := z_in4 112 rfl
theorem ws_X1_isBlank : Cond.selects yX1_isBlank.cls yX1_isBlank yX1_isBlank ∈ lw_tbl := z_in4 113 rfl
theorem yw_X1_programHash : z_yw yX1_programHash cX1_programHash 3 (some .long) 2 := ⟨z_in2 73 rfl, z_in1 6 rfl, by decide +kernel⟩
theorem wi_X1_programHash : Cond.instanceMethod yX1_programHash ∈ lw_tbl := z_in2 71 rfl
theorem ws_X1_programHash : Cond.selects yX1_programHash.cls yX1_programHash yX1_programHash ∈ lw_tbl := z_in2 72 rfl
theorem yw_X1_lowest : z_yw yX1_lowest cX1_lowest 2 (some .long) 1 := ⟨z_in2 82 rfl, z_in1 6 rfl, by decide +kernel⟩
theorem ws_X1_lowest : Cond.static yX1_lowest ∈ lw_tbl := z_in2 81 rfl
theorem yw_X1_lastWrittenPiece : z_yw yX1_lastWrittenPiece cX1_lastWrittenPiece 4 (some .int) 2 := ⟨z_in4 151 rfl, z_in1 6 rfl, by decide +kernel⟩
theorem wi_X1_lastWrittenPiece : Cond.instanceMethod yX1_lastWrittenPiece ∈ lw_tbl := z_in4 149 rfl
theorem ws_X1_lastWrittenPiece : Cond.selects yX1_lastWrittenPiece.cls yX1_lastWrittenPiece yX1_lastWrittenPiece ∈ lw_tbl := z_in4 150 rfl
theorem yw_X2_init : z_yw yX2_init cX2_init 3 none 2 := ⟨z_in2 205 rfl, z_in1 11 rfl, by decide +kernel⟩
theorem wi_X2_init : Cond.instanceMethod yX2_init ∈ lw_tbl := z_in2 204 rfl
theorem yw_X2_isSettled : z_yw yX2_isSettled cX2_isSettled 1 (some .boolean) 0 := ⟨z_in3 195 rfl, z_in1 11 rfl, by decide +kernel⟩
theorem wi_X2_isSettled : Cond.instanceMethod yX2_isSettled ∈ lw_tbl := z_in3 193 rfl
theorem ws_X2_isSettled : Cond.selects yX2_isSettled.cls yX2_isSettled yX2_isSettled ∈ lw_tbl := z_in3 194 rfl
theorem yw_X2_halt : z_yw yX2_halt cX2_halt 1 none 0 := ⟨z_in4 167 rfl, z_in1 11 rfl, by decide +kernel⟩
theorem wi_X2_halt : Cond.instanceMethod yX2_halt ∈ lw_tbl := z_in4 165 rfl
theorem ws_X2_halt : Cond.selects yX2_halt.cls yX2_halt yX2_halt ∈ lw_tbl := z_in4 166 rfl
theorem yw_X2_start : z_yw yX2_start cX2_start 1 (some .int) 0 := ⟨z_in4 207 rfl, z_in1 11 rfl, by decide +kernel⟩
theorem wi_X2_start : Cond.instanceMethod yX2_start ∈ lw_tbl := z_in4 205 rfl
theorem ws_X2_start : Cond.selects yX2_start.cls yX2_start yX2_start ∈ lw_tbl := z_in4 206 rfl
theorem yw_X2_startTrial : z_yw yX2_startTrial cX2_startTrial 1 (some .int) 0 := ⟨z_in4 212 rfl, z_in1 11 rfl, by decide +kernel⟩
theorem wi_X2_startTrial : Cond.instanceMethod yX2_startTrial ∈ lw_tbl := z_in4 211 rfl
theorem ws_X2_startTrial : Cond.selects yX2_startTrial.cls yX2_startTrial yX2_startTrial ∈ lw_tbl := List.mem_append_left _ (List.mem_map.mpr ⟨_, List.mem_of_getElem? (i := 25) (by rfl), rfl⟩)
theorem yw_X2_startConfirmed : z_yw yX2_startConfirmed cX2_startConfirmed 1 (some .int) 0 := ⟨z_in4 221 rfl, z_in1 11 rfl, by decide +kernel⟩
theorem wi_X2_startConfirmed : Cond.instanceMethod yX2_startConfirmed ∈ lw_tbl := z_in4 220 rfl
theorem ws_X2_startConfirmed : Cond.selects yX2_startConfirmed.cls yX2_startConfirmed yX2_startConfirmed ∈ lw_tbl := List.mem_append_left _ (List.mem_map.mpr ⟨_, List.mem_of_getElem? (i := 26) (by rfl), rfl⟩)
theorem yw_X2_confirm : z_yw yX2_confirm cX2_confirm 1 (some .int) 0 := ⟨z_in4 229 rfl, z_in1 11 rfl, by decide +kernel⟩
theorem wi_X2_confirm : Cond.instanceMethod yX2_confirm ∈ lw_tbl := z_in4 227 rfl
theorem ws_X2_confirm : Cond.selects yX2_confirm.cls yX2_confirm yX2_confirm ∈ lw_tbl := z_in4 228 rfl
theorem yw_X2_reject : z_yw yX2_reject cX2_reject 1 (some .int) 0 := ⟨z_in4 239 rfl, z_in1 11 rfl, by decide +kernel⟩
theorem wi_X2_reject : Cond.instanceMethod yX2_reject ∈ lw_tbl := z_in4 237 rfl
theorem ws_X2_reject : Cond.selects yX2_reject.cls yX2_reject yX2_reject ∈ lw_tbl := z_in4 238 rfl
theorem yw_X3_init : z_yw yX3_init cX3_init 2 none 1 := ⟨z_in1 67 rfl, z_in1 5 rfl, by decide +kernel⟩
theorem wi_X3_init : Cond.instanceMethod yX3_init ∈ lw_tbl := z_in1 66 rfl
theorem yw_X3_planRole : z_yw yX3_planRole cX3_planRole 5 (some .int) 3 := ⟨z_in3 82 rfl, z_in1 5 rfl, by decide +kernel⟩
theorem wi_X3_planRole : Cond.instanceMethod yX3_planRole ∈ lw_tbl := z_in3 80 rfl
theorem ws_X3_planRole : Cond.selects yX3_planRole.cls yX3_planRole yX3_planRole ∈ lw_tbl := z_in3 81 rfl
theorem yw_X3_addImage : z_yw yX3_addImage cX3_addImage 5 (some .int) 3 := ⟨z_in3 97 rfl, z_in1 5 rfl, by decide +kernel⟩
theorem wi_X3_addImage : Cond.instanceMethod yX3_addImage ∈ lw_tbl := z_in3 95 rfl
theorem ws_X3_addImage : Cond.selects yX3_addImage.cls yX3_addImage yX3_addImage ∈ lw_tbl := z_in3 96 rfl
theorem yw_X3_addProgram : z_yw yX3_addProgram cX3_addProgram 7 none 4 := ⟨z_in3 103 rfl, z_in1 5 rfl, by decide +kernel⟩
theorem wi_X3_addProgram : Cond.instanceMethod yX3_addProgram ∈ lw_tbl := z_in3 102 rfl
theorem ws_X3_addProgram : Cond.selects yX3_addProgram.cls yX3_addProgram yX3_addProgram ∈ lw_tbl := List.mem_append_left _ (List.mem_map.mpr ⟨_, List.mem_of_getElem? (i := 5) (by rfl), rfl⟩)
theorem yw_X3_dropImages : z_yw yX3_dropImages cX3_dropImages 2 (some .int) 0 := ⟨z_in3 113 rfl, z_in1 5 rfl, by decide +kernel⟩
theorem wi_X3_dropImages : Cond.instanceMethod yX3_dropImages ∈ lw_tbl := z_in3 111 rfl
theorem ws_X3_dropImages : Cond.selects yX3_dropImages.cls yX3_dropImages yX3_dropImages ∈ lw_tbl := z_in3 112 rfl
theorem yw_X3_compose : z_yw yX3_compose cX3_compose 4 (some .int) 3 := ⟨z_in3 121 rfl, z_in1 5 rfl, by decide +kernel⟩
theorem wi_X3_compose : Cond.instanceMethod yX3_compose ∈ lw_tbl := z_in3 119 rfl
theorem ws_X3_compose : Cond.selects yX3_compose.cls yX3_compose yX3_compose ∈ lw_tbl := z_in3 120 rfl
theorem yw_X3_addRoles : z_yw yX3_addRoles cX3_addRoles 2 none 0 := ⟨z_in3 126 rfl, z_in1 5 rfl, by decide +kernel⟩
theorem wi_X3_addRoles : Cond.instanceMethod yX3_addRoles ∈ lw_tbl := z_in3 125 rfl
theorem ws_X3_addRoles : Cond.selects yX3_addRoles.cls yX3_addRoles yX3_addRoles ∈ lw_tbl := List.mem_append_left _ (List.mem_map.mpr ⟨_, List.mem_of_getElem? (i := 6) (by rfl), rfl⟩)
theorem yw_X3_addImages : z_yw yX3_addImages cX3_addImages 2 none 0 := ⟨z_in3 135 rfl, z_in1 5 rfl, by decide +kernel⟩
theorem wi_X3_addImages : Cond.instanceMethod yX3_addImages ∈ lw_tbl := z_in3 134 rfl
theorem ws_X3_addImages : Cond.selects yX3_addImages.cls yX3_addImages yX3_addImages ∈ lw_tbl := List.mem_append_left _ (List.mem_map.mpr ⟨_, List.mem_of_getElem? (i := 7) (by rfl), rfl⟩)
theorem yw_X3_addKey : z_yw yX3_addKey cX3_addKey 2 (some .int) 1 := ⟨z_in3 144 rfl, z_in1 5 rfl, by decide +kernel⟩
theorem wi_X3_addKey : Cond.instanceMethod yX3_addKey ∈ lw_tbl := z_in3 142 rfl
theorem ws_X3_addKey : Cond.selects yX3_addKey.cls yX3_addKey yX3_addKey ∈ lw_tbl := z_in3 143 rfl
theorem yw_X3_copyDraft : z_yw yX3_copyDraft cX3_copyDraft 2 (some .int) 1 := ⟨z_in3 160 rfl, z_in1 5 rfl, by decide +kernel⟩
theorem wi_X3_copyDraft : Cond.instanceMethod yX3_copyDraft ∈ lw_tbl := z_in3 158 rfl
theorem ws_X3_copyDraft : Cond.selects yX3_copyDraft.cls yX3_copyDraft yX3_copyDraft ∈ lw_tbl := z_in3 159 rfl
theorem yw_X3_copyPiece : z_yw yX3_copyPiece cX3_copyPiece 6 (some .int) 3 := ⟨z_in3 173 rfl, z_in1 5 rfl, by decide +kernel⟩
theorem wi_X3_copyPiece : Cond.instanceMethod yX3_copyPiece ∈ lw_tbl := z_in3 171 rfl
theorem ws_X3_copyPiece : Cond.selects yX3_copyPiece.cls yX3_copyPiece yX3_copyPiece ∈ lw_tbl := z_in3 172 rfl
theorem yw_X4_init : z_yw yX4_init cX4_init 1 none 0 := ⟨z_in1 178 rfl, z_in1 8 rfl, by decide +kernel⟩
theorem wi_X4_init : Cond.instanceMethod yX4_init ∈ lw_tbl := z_in1 177 rfl
theorem yw_X4_becomeFactoryRoot : z_yw yX4_becomeFactoryRoot cX4_becomeFactoryRoot 2 none 0 := ⟨z_in2 39 rfl, z_in1 8 rfl, by decide +kernel⟩
theorem wi_X4_becomeFactoryRoot : Cond.instanceMethod yX4_becomeFactoryRoot ∈ lw_tbl := z_in2 37 rfl
theorem ws_X4_becomeFactoryRoot : Cond.selects yX4_becomeFactoryRoot.cls yX4_becomeFactoryRoot yX4_becomeFactoryRoot ∈ lw_tbl := z_in2 38 rfl
theorem yw_X4_read : z_yw yX4_read cX4_read 4 (some .boolean) 3 := ⟨z_in3 233 rfl, z_in1 8 rfl, by decide +kernel⟩
theorem wi_X4_read : Cond.instanceMethod yX4_read ∈ lw_tbl := z_in3 231 rfl
theorem ws_X4_read : Cond.selects yX4_read.cls yX4_read yX4_read ∈ lw_tbl := z_in3 232 rfl
theorem yw_X4_readHead : z_yw yX4_readHead cX4_readHead 1 (some .boolean) 0 := ⟨z_in4 1 rfl, z_in1 8 rfl, by decide +kernel⟩
theorem wi_X4_readHead : Cond.instanceMethod yX4_readHead ∈ lw_tbl := z_in4 0 rfl
theorem ws_X4_readHead : Cond.selects yX4_readHead.cls yX4_readHead yX4_readHead ∈ lw_tbl := List.mem_append_left _ (List.mem_map.mpr ⟨_, List.mem_of_getElem? (i := 11) (by rfl), rfl⟩)
theorem yw_X4_readKeys : z_yw yX4_readKeys cX4_readKeys 3 (some .boolean) 0 := ⟨z_in4 6 rfl, z_in1 8 rfl, by decide +kernel⟩
theorem wi_X4_readKeys : Cond.instanceMethod yX4_readKeys ∈ lw_tbl := z_in4 5 rfl
theorem ws_X4_readKeys : Cond.selects yX4_readKeys.cls yX4_readKeys yX4_readKeys ∈ lw_tbl := List.mem_append_left _ (List.mem_map.mpr ⟨_, List.mem_of_getElem? (i := 12) (by rfl), rfl⟩)
theorem yw_X4_readRoot : z_yw yX4_readRoot cX4_readRoot 5 (some .boolean) 0 := ⟨z_in4 15 rfl, z_in1 8 rfl, by decide +kernel⟩
theorem wi_X4_readRoot : Cond.instanceMethod yX4_readRoot ∈ lw_tbl := z_in4 14 rfl
theorem ws_X4_readRoot : Cond.selects yX4_readRoot.cls yX4_readRoot yX4_readRoot ∈ lw_tbl := List.mem_append_left _ (List.mem_map.mpr ⟨_, List.mem_of_getElem? (i := 13) (by rfl), rfl⟩)
theorem yw_X4_readTold : z_yw yX4_readTold cX4_readTold 1 (some .boolean) 0 := ⟨z_in4 19 rfl, z_in1 8 rfl, by decide +kernel⟩
theorem wi_X4_readTold : Cond.instanceMethod yX4_readTold ∈ lw_tbl := z_in4 18 rfl
theorem ws_X4_readTold : Cond.selects yX4_readTold.cls yX4_readTold yX4_readTold ∈ lw_tbl := List.mem_append_left _ (List.mem_map.mpr ⟨_, List.mem_of_getElem? (i := 14) (by rfl), rfl⟩)
theorem yw_X4_readImages : z_yw yX4_readImages cX4_readImages 4 (some .boolean) 0 := ⟨z_in4 23 rfl, z_in1 8 rfl, by decide +kernel⟩
theorem wi_X4_readImages : Cond.instanceMethod yX4_readImages ∈ lw_tbl := z_in4 22 rfl
theorem ws_X4_readImages : Cond.selects yX4_readImages.cls yX4_readImages yX4_readImages ∈ lw_tbl := List.mem_append_left _ (List.mem_map.mpr ⟨_, List.mem_of_getElem? (i := 15) (by rfl), rfl⟩)
theorem yw_X4_hasBodyOf : z_yw yX4_hasBodyOf cX4_hasBodyOf 3 (some .boolean) 1 := ⟨z_in4 134 rfl, z_in1 8 rfl, by decide +kernel⟩
theorem wi_X4_hasBodyOf : Cond.instanceMethod yX4_hasBodyOf ∈ lw_tbl := z_in4 132 rfl
theorem ws_X4_hasBodyOf : Cond.selects yX4_hasBodyOf.cls yX4_hasBodyOf yX4_hasBodyOf ∈ lw_tbl := z_in4 133 rfl
theorem yw_X4_givesLike : z_yw yX4_givesLike cX4_givesLike 3 (some .boolean) 2 := ⟨z_in4 40 rfl, z_in1 8 rfl, by decide +kernel⟩
theorem wi_X4_givesLike : Cond.instanceMethod yX4_givesLike ∈ lw_tbl := z_in4 38 rfl
theorem ws_X4_givesLike : Cond.selects yX4_givesLike.cls yX4_givesLike yX4_givesLike ∈ lw_tbl := z_in4 39 rfl
theorem yw_X4_tell : z_yw yX4_tell cX4_tell 3 (some .int) 2 := ⟨z_in5 18 rfl, z_in1 8 rfl, by decide +kernel⟩
theorem wi_X4_tell : Cond.instanceMethod yX4_tell ∈ lw_tbl := z_in5 16 rfl
theorem ws_X4_tell : Cond.selects yX4_tell.cls yX4_tell yX4_tell ∈ lw_tbl := z_in5 17 rfl
theorem yw_X4_isRole : z_yw yX4_isRole cX4_isRole 2 (some .boolean) 1 := ⟨z_in5 22 rfl, z_in1 8 rfl, by decide +kernel⟩
theorem wi_X4_isRole : Cond.instanceMethod yX4_isRole ∈ lw_tbl := z_in5 21 rfl
theorem ws_X4_isRole : Cond.selects yX4_isRole.cls yX4_isRole yX4_isRole ∈ lw_tbl := List.mem_append_left _ (List.mem_map.mpr ⟨_, List.mem_of_getElem? (i := 27) (by rfl), rfl⟩)
theorem yw_X4_isImage : z_yw yX4_isImage cX4_isImage 2 (some .boolean) 1 := ⟨z_in5 26 rfl, z_in1 8 rfl, by decide +kernel⟩
theorem wi_X4_isImage : Cond.instanceMethod yX4_isImage ∈ lw_tbl := z_in5 25 rfl
theorem ws_X4_isImage : Cond.selects yX4_isImage.cls yX4_isImage yX4_isImage ∈ lw_tbl := List.mem_append_left _ (List.mem_map.mpr ⟨_, List.mem_of_getElem? (i := 28) (by rfl), rfl⟩)
theorem yw_X5_init : z_yw yX5_init cX5_init 2 none 1 := ⟨z_in1 27 rfl, z_in1 2 rfl, by decide +kernel⟩
theorem wi_X5_init : Cond.instanceMethod yX5_init ∈ lw_tbl := z_in1 26 rfl
theorem yw_X5_size : z_yw yX5_size cX5_size 1 (some .int) 0 := ⟨z_in3 56 rfl, z_in1 2 rfl, by decide +kernel⟩
theorem wi_X5_size : Cond.instanceMethod yX5_size ∈ lw_tbl := z_in3 54 rfl
theorem ws_X5_size : Cond.selects yX5_size.cls yX5_size yX5_size ∈ lw_tbl := z_in3 55 rfl
theorem yw_X5_has : z_yw yX5_has cX5_has 2 (some .boolean) 1 := ⟨z_in3 73 rfl, z_in1 2 rfl, by decide +kernel⟩
theorem wi_X5_has : Cond.instanceMethod yX5_has ∈ lw_tbl := z_in3 71 rfl
theorem ws_X5_has : Cond.selects yX5_has.cls yX5_has yX5_has ∈ lw_tbl := z_in3 72 rfl
theorem yw_X5_at : z_yw yX5_at cX5_at 2 (some .int) 1 := ⟨z_in2 177 rfl, z_in1 2 rfl, by decide +kernel⟩
theorem wi_X5_at : Cond.instanceMethod yX5_at ∈ lw_tbl := z_in2 175 rfl
theorem ws_X5_at : Cond.selects yX5_at.cls yX5_at yX5_at ∈ lw_tbl := z_in2 176 rfl
theorem yw_X5_set : z_yw yX5_set cX5_set 3 none 2 := ⟨z_in1 143 rfl, z_in1 2 rfl, by decide +kernel⟩
theorem wi_X5_set : Cond.instanceMethod yX5_set ∈ lw_tbl := z_in1 141 rfl
theorem ws_X5_set : Cond.selects yX5_set.cls yX5_set yX5_set ∈ lw_tbl := z_in1 142 rfl
theorem yw_X5_empty : z_yw yX5_empty cX5_empty 1 none 0 := ⟨z_in2 159 rfl, z_in1 2 rfl, by decide +kernel⟩
theorem wi_X5_empty : Cond.instanceMethod yX5_empty ∈ lw_tbl := z_in2 157 rfl
theorem ws_X5_empty : Cond.selects yX5_empty.cls yX5_empty yX5_empty ∈ lw_tbl := z_in2 158 rfl
theorem yw_X5_shorten : z_yw yX5_shorten cX5_shorten 2 none 1 := ⟨z_in3 65 rfl, z_in1 2 rfl, by decide +kernel⟩
theorem wi_X5_shorten : Cond.instanceMethod yX5_shorten ∈ lw_tbl := z_in3 63 rfl
theorem ws_X5_shorten : Cond.selects yX5_shorten.cls yX5_shorten yX5_shorten ∈ lw_tbl := z_in3 64 rfl
theorem yw_X5_add : z_yw yX5_add cX5_add 2 none 1 := ⟨z_in1 136 rfl, z_in1 2 rfl, by decide +kernel⟩
theorem wi_X5_add : Cond.instanceMethod yX5_add ∈ lw_tbl := z_in1 134 rfl
theorem ws_X5_add : Cond.selects yX5_add.cls yX5_add yX5_add ∈ lw_tbl := z_in1 135 rfl
theorem yw_X5_addNumber : z_yw yX5_addNumber cX5_addNumber 5 none 2 := ⟨z_in2 163 rfl, z_in1 2 rfl, by decide +kernel⟩
theorem wi_X5_addNumber : Cond.instanceMethod yX5_addNumber ∈ lw_tbl := z_in2 161 rfl
theorem ws_X5_addNumber : Cond.selects yX5_addNumber.cls yX5_addNumber yX5_addNumber ∈ lw_tbl := z_in2 162 rfl
theorem yw_X5_addFrom : z_yw yX5_addFrom cX5_addFrom 5 none 3 := ⟨z_in3 164 rfl, z_in1 2 rfl, by decide +kernel⟩
theorem wi_X5_addFrom : Cond.instanceMethod yX5_addFrom ∈ lw_tbl := z_in3 162 rfl
theorem ws_X5_addFrom : Cond.selects yX5_addFrom.cls yX5_addFrom yX5_addFrom ∈ lw_tbl := z_in3 163 rfl
theorem yw_X5_number : z_yw yX5_number cX5_number 6 (some .long) 2 := ⟨z_in2 185 rfl, z_in1 2 rfl, by decide +kernel⟩
theorem wi_X5_number : Cond.instanceMethod yX5_number ∈ lw_tbl := z_in2 183 rfl
theorem ws_X5_number : Cond.selects yX5_number.cls yX5_number yX5_number ∈ lw_tbl := z_in2 184 rfl
theorem yw_X5_keyBits : z_yw yX5_keyBits cX5_keyBits 7 (some .int) 2 := ⟨z_in4 10 rfl, z_in1 2 rfl, by decide +kernel⟩
theorem wi_X5_keyBits : Cond.instanceMethod yX5_keyBits ∈ lw_tbl := z_in4 8 rfl
theorem ws_X5_keyBits : Cond.selects yX5_keyBits.cls yX5_keyBits yX5_keyBits ∈ lw_tbl := z_in4 9 rfl
theorem yw_X5_addKeys : z_yw yX5_addKeys cX5_addKeys 3 none 1 := ⟨z_in3 130 rfl, z_in1 2 rfl, by decide +kernel⟩
theorem wi_X5_addKeys : Cond.instanceMethod yX5_addKeys ∈ lw_tbl := z_in3 128 rfl
theorem ws_X5_addKeys : Cond.selects yX5_addKeys.cls yX5_addKeys yX5_addKeys ∈ lw_tbl := z_in3 129 rfl
theorem yw_X5_hash : z_yw yX5_hash cX5_hash 6 (some .long) 2 := ⟨z_in2 77 rfl, z_in1 2 rfl, by decide +kernel⟩
theorem wi_X5_hash : Cond.instanceMethod yX5_hash ∈ lw_tbl := z_in2 75 rfl
theorem ws_X5_hash : Cond.selects yX5_hash.cls yX5_hash yX5_hash ∈ lw_tbl := z_in2 76 rfl
theorem yw_X5_checkOf : z_yw yX5_checkOf cX5_checkOf 4 (some .long) 1 := ⟨z_in2 168 rfl, z_in1 2 rfl, by decide +kernel⟩
theorem ws_X5_checkOf : Cond.static yX5_checkOf ∈ lw_tbl := z_in2 167 rfl
theorem yw_X6_init : z_yw yX6_init cX6_init 3 none 2 := ⟨z_in1 172 rfl, z_in1 7 rfl, by decide +kernel⟩
theorem wi_X6_init : Cond.instanceMethod yX6_init ∈ lw_tbl := z_in1 171 rfl
theorem yw_X6_secondCounts : z_yw yX6_secondCounts cX6_secondCounts 1 (some .boolean) 0 := ⟨z_in3 228 rfl, z_in1 7 rfl, by decide +kernel⟩
theorem wi_X6_secondCounts : Cond.instanceMethod yX6_secondCounts ∈ lw_tbl := z_in3 227 rfl
theorem ws_X6_secondCounts : Cond.selects yX6_secondCounts.cls yX6_secondCounts yX6_secondCounts ∈ lw_tbl := List.mem_append_left _ (List.mem_map.mpr ⟨_, List.mem_of_getElem? (i := 10) (by rfl), rfl⟩)
theorem yw_X6_counting : z_yw yX6_counting cX6_counting 1 (some (.object "FlashTrust$Entry")) 0 := ⟨z_in3 224 rfl, z_in1 7 rfl, by decide +kernel⟩
theorem wi_X6_counting : Cond.instanceMethod yX6_counting ∈ lw_tbl := z_in3 223 rfl
theorem ws_X6_counting : Cond.selects yX6_counting.cls yX6_counting yX6_counting ∈ lw_tbl := List.mem_append_left _ (List.mem_map.mpr ⟨_, List.mem_of_getElem? (i := 9) (by rfl), rfl⟩)
theorem yw_X6_number : z_yw yX6_number cX6_number 1 (some .int) 0 := ⟨z_in3 219 rfl, z_in1 7 rfl, by decide +kernel⟩
theorem wi_X6_number : Cond.instanceMethod yX6_number ∈ lw_tbl := z_in3 217 rfl
theorem ws_X6_number : Cond.selects yX6_number.cls yX6_number yX6_number ∈ lw_tbl := z_in3 218 rfl
theorem yw_X6_holds : z_yw yX6_holds cX6_holds 1 (some .boolean) 0 := ⟨z_in4 44 rfl, z_in1 7 rfl, by decide +kernel⟩
theorem wi_X6_holds : Cond.instanceMethod yX6_holds ∈ lw_tbl := z_in4 42 rfl
theorem ws_X6_holds : Cond.selects yX6_holds.cls yX6_holds yX6_holds ∈ lw_tbl := z_in4 43 rfl
theorem yw_X6_paper : z_yw yX6_paper cX6_paper 1 (some (.object "FlashTrust$Paper")) 0 := ⟨z_in3 215 rfl, z_in1 7 rfl, by decide +kernel⟩
theorem wi_X6_paper : Cond.instanceMethod yX6_paper ∈ lw_tbl := z_in3 213 rfl
theorem ws_X6_paper : Cond.selects yX6_paper.cls yX6_paper yX6_paper ∈ lw_tbl := z_in3 214 rfl
theorem yw_X6_holdsBodyOf : z_yw yX6_holdsBodyOf cX6_holdsBodyOf 2 (some .boolean) 1 := ⟨z_in4 128 rfl, z_in1 7 rfl, by decide +kernel⟩
theorem wi_X6_holdsBodyOf : Cond.instanceMethod yX6_holdsBodyOf ∈ lw_tbl := z_in4 126 rfl
theorem ws_X6_holdsBodyOf : Cond.selects yX6_holdsBodyOf.cls yX6_holdsBodyOf yX6_holdsBodyOf ∈ lw_tbl := z_in4 127 rfl
theorem yw_X6_keep : z_yw yX6_keep cX6_keep 3 none 1 := ⟨z_in4 48 rfl, z_in1 7 rfl, by decide +kernel⟩
theorem wi_X6_keep : Cond.instanceMethod yX6_keep ∈ lw_tbl := z_in4 46 rfl
theorem ws_X6_keep : Cond.selects yX6_keep.cls yX6_keep yX6_keep ∈ lw_tbl := z_in4 47 rfl
theorem yw_X7_init : z_yw yX7_init cX7_init 1 none 0 := ⟨z_in1 50 rfl, z_in1 4 rfl, by decide +kernel⟩
theorem wi_X7_init : Cond.instanceMethod yX7_init ∈ lw_tbl := z_in1 49 rfl
theorem yw_X7_has : z_yw yX7_has cX7_has 5 (some .boolean) 2 := ⟨z_in3 152 rfl, z_in1 4 rfl, by decide +kernel⟩
theorem wi_X7_has : Cond.instanceMethod yX7_has ∈ lw_tbl := z_in3 150 rfl
theorem ws_X7_has : Cond.selects yX7_has.cls yX7_has yX7_has ∈ lw_tbl := z_in3 151 rfl
theorem yw_X7_add : z_yw yX7_add cX7_add 4 (some .boolean) 2 := ⟨z_in3 148 rfl, z_in1 4 rfl, by decide +kernel⟩
theorem wi_X7_add : Cond.instanceMethod yX7_add ∈ lw_tbl := z_in3 146 rfl
theorem ws_X7_add : Cond.selects yX7_add.cls yX7_add yX7_add ∈ lw_tbl := z_in3 147 rfl
theorem yw_X8_init : z_yw yX8_init cX8_init 3 none 2 := ⟨z_in2 66 rfl, z_in1 10 rfl, by decide +kernel⟩
theorem wi_X8_init : Cond.instanceMethod yX8_init ∈ lw_tbl := z_in2 65 rfl
theorem yw_X8_install : z_yw yX8_install cX8_install 1 none 0 := ⟨z_in2 143 rfl, z_in1 10 rfl, by decide +kernel⟩
theorem wi_X8_install : Cond.instanceMethod yX8_install ∈ lw_tbl := z_in2 141 rfl
theorem ws_X8_install : Cond.selects yX8_install.cls yX8_install yX8_install ∈ lw_tbl := z_in2 142 rfl
theorem yw_X8_becomeFactory : z_yw yX8_becomeFactory cX8_becomeFactory 1 none 0 := ⟨z_in2 147 rfl, z_in1 10 rfl, by decide +kernel⟩
theorem wi_X8_becomeFactory : Cond.instanceMethod yX8_becomeFactory ∈ lw_tbl := z_in2 146 rfl
theorem ws_X8_becomeFactory : Cond.selects yX8_becomeFactory.cls yX8_becomeFactory yX8_becomeFactory ∈ lw_tbl := List.mem_append_left _ (List.mem_map.mpr ⟨_, List.mem_of_getElem? (i := 0) (by rfl), rfl⟩)
theorem yw_X8_stage : z_yw yX8_stage cX8_stage 6 none 4 := ⟨z_in2 151 rfl, z_in1 10 rfl, by decide +kernel⟩
theorem wi_X8_stage : Cond.instanceMethod yX8_stage ∈ lw_tbl := z_in2 149 rfl
theorem ws_X8_stage : Cond.selects yX8_stage.cls yX8_stage yX8_stage ∈ lw_tbl := z_in2 150 rfl
theorem yw_X8_stageNothing : z_yw yX8_stageNothing cX8_stageNothing 1 none 0 := ⟨z_in4 102 rfl, z_in1 10 rfl, by decide +kernel⟩
theorem wi_X8_stageNothing : Cond.instanceMethod yX8_stageNothing ∈ lw_tbl := z_in4 100 rfl
theorem ws_X8_stageNothing : Cond.selects yX8_stageNothing.cls yX8_stageNothing yX8_stageNothing ∈ lw_tbl := z_in4 101 rfl
theorem yw_X8_confirmStaged : z_yw yX8_confirmStaged cX8_confirmStaged 1 none 0 := ⟨z_in4 233 rfl, z_in1 10 rfl, by decide +kernel⟩
theorem wi_X8_confirmStaged : Cond.instanceMethod yX8_confirmStaged ∈ lw_tbl := z_in4 231 rfl
theorem ws_X8_confirmStaged : Cond.selects yX8_confirmStaged.cls yX8_confirmStaged yX8_confirmStaged ∈ lw_tbl := z_in4 232 rfl
theorem yw_X8_otherSlot : z_yw yX8_otherSlot cX8_otherSlot 1 (some .int) 0 := ⟨z_in4 90 rfl, z_in1 10 rfl, by decide +kernel⟩
theorem wi_X8_otherSlot : Cond.instanceMethod yX8_otherSlot ∈ lw_tbl := z_in4 88 rfl
theorem ws_X8_otherSlot : Cond.selects yX8_otherSlot.cls yX8_otherSlot yX8_otherSlot ∈ lw_tbl := z_in4 89 rfl
theorem yw_X8_stages : z_yw yX8_stages cX8_stages 5 (some .boolean) 3 := ⟨z_in4 147 rfl, z_in1 10 rfl, by decide +kernel⟩
theorem wi_X8_stages : Cond.instanceMethod yX8_stages ∈ lw_tbl := z_in4 145 rfl
theorem ws_X8_stages : Cond.selects yX8_stages.cls yX8_stages yX8_stages ∈ lw_tbl := z_in4 146 rfl
theorem yw_X8_store : z_yw yX8_store cX8_store 3 none 0 := ⟨z_in4 106 rfl, z_in1 10 rfl, by decide +kernel⟩
theorem wi_X8_store : Cond.instanceMethod yX8_store ∈ lw_tbl := z_in4 104 rfl
theorem ws_X8_store : Cond.selects yX8_store.cls yX8_store yX8_store ∈ lw_tbl := z_in4 105 rfl
theorem yw_X8_nextBlank : z_yw yX8_nextBlank cX8_nextBlank 3 (some .int) 1 := ⟨z_in4 110 rfl, z_in1 10 rfl, by decide +kernel⟩
theorem wi_X8_nextBlank : Cond.instanceMethod yX8_nextBlank ∈ lw_tbl := z_in4 109 rfl
theorem ws_X8_nextBlank : Cond.selects yX8_nextBlank.cls yX8_nextBlank yX8_nextBlank ∈ lw_tbl := List.mem_append_left _ (List.mem_map.mpr ⟨_, List.mem_of_getElem? (i := 20) (by rfl), rfl⟩)
theorem yw_X8_compose : z_yw yX8_compose cX8_compose 2 none 1 := ⟨z_in2 155 rfl, z_in1 10 rfl, by decide +kernel⟩
theorem wi_X8_compose : Cond.instanceMethod yX8_compose ∈ lw_tbl := z_in2 154 rfl
theorem ws_X8_compose : Cond.selects yX8_compose.cls yX8_compose yX8_compose ∈ lw_tbl := List.mem_append_left _ (List.mem_map.mpr ⟨_, List.mem_of_getElem? (i := 1) (by rfl), rfl⟩)
theorem yw_X8_look : z_yw yX8_look cX8_look 5 none 0 := ⟨z_in2 181 rfl, z_in1 10 rfl, by decide +kernel⟩
theorem wi_X8_look : Cond.instanceMethod yX8_look ∈ lw_tbl := z_in2 180 rfl
theorem ws_X8_look : Cond.selects yX8_look.cls yX8_look yX8_look ∈ lw_tbl := List.mem_append_left _ (List.mem_map.mpr ⟨_, List.mem_of_getElem? (i := 2) (by rfl), rfl⟩)
theorem yw_X8_fits : z_yw yX8_fits cX8_fits 9 (some .boolean) 1 := ⟨z_in2 191 rfl, z_in1 10 rfl, by decide +kernel⟩
theorem wi_X8_fits : Cond.instanceMethod yX8_fits ∈ lw_tbl := z_in2 190 rfl
theorem ws_X8_fits : Cond.selects yX8_fits.cls yX8_fits yX8_fits ∈ lw_tbl := List.mem_append_left _ (List.mem_map.mpr ⟨_, List.mem_of_getElem? (i := 3) (by rfl), rfl⟩)
theorem yw_X8_isProgramLength : z_yw yX8_isProgramLength cX8_isProgramLength 2 (some .boolean) 1 := ⟨z_in2 195 rfl, z_in1 10 rfl, by decide +kernel⟩
theorem ws_X8_isProgramLength : Cond.static yX8_isProgramLength ∈ lw_tbl := z_in2 194 rfl
theorem yw_X8_load : z_yw yX8_load cX8_load 3 none 1 := ⟨z_in2 200 rfl, z_in1 10 rfl, by decide +kernel⟩
theorem wi_X8_load : Cond.instanceMethod yX8_load ∈ lw_tbl := z_in2 199 rfl
theorem ws_X8_load : Cond.selects yX8_load.cls yX8_load yX8_load ∈ lw_tbl := List.mem_append_left _ (List.mem_map.mpr ⟨_, List.mem_of_getElem? (i := 4) (by rfl), rfl⟩)
theorem yw_X8_tell : z_yw yX8_tell cX8_tell 2 (some .int) 1 := ⟨z_in5 7 rfl, z_in1 10 rfl, by decide +kernel⟩
theorem wi_X8_tell : Cond.instanceMethod yX8_tell ∈ lw_tbl := z_in5 5 rfl
theorem ws_X8_tell : Cond.selects yX8_tell.cls yX8_tell yX8_tell ∈ lw_tbl := z_in5 6 rfl
theorem yw_X9_init : z_yw yX9_init cX9_init 5 none 4 := ⟨z_in2 226 rfl, z_in1 12 rfl, by decide +kernel⟩
theorem wi_X9_init : Cond.instanceMethod yX9_init ∈ lw_tbl := z_in2 225 rfl
theorem yw_X9_goesOn : z_yw yX9_goesOn cX9_goesOn 1 (some .boolean) 0 := ⟨z_in3 191 rfl, z_in1 12 rfl, by decide +kernel⟩
theorem wi_X9_goesOn : Cond.instanceMethod yX9_goesOn ∈ lw_tbl := z_in3 189 rfl
theorem ws_X9_goesOn : Cond.selects yX9_goesOn.cls yX9_goesOn yX9_goesOn ∈ lw_tbl := z_in3 190 rfl
theorem yw_X9_start : z_yw yX9_start cX9_start 2 (some .int) 1 := ⟨z_in3 199 rfl, z_in1 12 rfl, by decide +kernel⟩
theorem wi_X9_start : Cond.instanceMethod yX9_start ∈ lw_tbl := z_in3 197 rfl
theorem ws_X9_start : Cond.selects yX9_start.cls yX9_start yX9_start ∈ lw_tbl := z_in3 198 rfl
theorem yw_X9_giveUp : z_yw yX9_giveUp cX9_giveUp 1 none 0 := ⟨z_in4 31 rfl, z_in1 12 rfl, by decide +kernel⟩
theorem wi_X9_giveUp : Cond.instanceMethod yX9_giveUp ∈ lw_tbl := z_in4 29 rfl
theorem ws_X9_giveUp : Cond.selects yX9_giveUp.cls yX9_giveUp yX9_giveUp ∈ lw_tbl := z_in4 30 rfl
theorem yw_X9_fail : z_yw yX9_fail cX9_fail 2 (some .int) 1 := ⟨z_in4 27 rfl, z_in1 12 rfl, by decide +kernel⟩
theorem wi_X9_fail : Cond.instanceMethod yX9_fail ∈ lw_tbl := z_in4 26 rfl
theorem ws_X9_fail : Cond.selects yX9_fail.cls yX9_fail yX9_fail ∈ lw_tbl := List.mem_append_left _ (List.mem_map.mpr ⟨_, List.mem_of_getElem? (i := 16) (by rfl), rfl⟩)
theorem yw_X9_trustedPaper : z_yw yX9_trustedPaper cX9_trustedPaper 2 (some (.object "FlashTrust$Paper")) 1 := ⟨z_in3 211 rfl, z_in1 12 rfl, by decide +kernel⟩
theorem wi_X9_trustedPaper : Cond.instanceMethod yX9_trustedPaper ∈ lw_tbl := z_in3 210 rfl
theorem ws_X9_trustedPaper : Cond.selects yX9_trustedPaper.cls yX9_trustedPaper yX9_trustedPaper ∈ lw_tbl := List.mem_append_left _ (List.mem_map.mpr ⟨_, List.mem_of_getElem? (i := 8) (by rfl), rfl⟩)
theorem yw_X9_wantedVersion : z_yw yX9_wantedVersion cX9_wantedVersion 1 (some .int) 0 := ⟨z_in4 183 rfl, z_in1 12 rfl, by decide +kernel⟩
theorem wi_X9_wantedVersion : Cond.instanceMethod yX9_wantedVersion ∈ lw_tbl := z_in4 181 rfl
theorem ws_X9_wantedVersion : Cond.selects yX9_wantedVersion.cls yX9_wantedVersion yX9_wantedVersion ∈ lw_tbl := z_in4 182 rfl
theorem yw_X9_takeRefusal : z_yw yX9_takeRefusal cX9_takeRefusal 1 (some .int) 0 := ⟨z_in4 175 rfl, z_in1 12 rfl, by decide +kernel⟩
theorem wi_X9_takeRefusal : Cond.instanceMethod yX9_takeRefusal ∈ lw_tbl := z_in4 173 rfl
theorem ws_X9_takeRefusal : Cond.selects yX9_takeRefusal.cls yX9_takeRefusal yX9_takeRefusal ∈ lw_tbl := z_in4 174 rfl
theorem yw_X9_takeRoot : z_yw yX9_takeRoot cX9_takeRoot 4 (some .int) 1 := ⟨z_in3 207 rfl, z_in1 12 rfl, by decide +kernel⟩
theorem wi_X9_takeRoot : Cond.instanceMethod yX9_takeRoot ∈ lw_tbl := z_in3 205 rfl
theorem ws_X9_takeRoot : Cond.selects yX9_takeRoot.cls yX9_takeRoot yX9_takeRoot ∈ lw_tbl := z_in3 206 rfl
theorem yw_X9_hasRole : z_yw yX9_hasRole cX9_hasRole 7 (some .boolean) 3 := ⟨z_in4 35 rfl, z_in1 12 rfl, by decide +kernel⟩
theorem wi_X9_hasRole : Cond.instanceMethod yX9_hasRole ∈ lw_tbl := z_in4 34 rfl
theorem ws_X9_hasRole : Cond.selects yX9_hasRole.cls yX9_hasRole yX9_hasRole ∈ lw_tbl := List.mem_append_left _ (List.mem_map.mpr ⟨_, List.mem_of_getElem? (i := 17) (by rfl), rfl⟩)
theorem yw_X9_takePaper : z_yw yX9_takePaper cX9_takePaper 6 (some .int) 1 := ⟨z_in4 120 rfl, z_in1 12 rfl, by decide +kernel⟩
theorem wi_X9_takePaper : Cond.instanceMethod yX9_takePaper ∈ lw_tbl := z_in4 118 rfl
theorem ws_X9_takePaper : Cond.selects yX9_takePaper.cls yX9_takePaper yX9_takePaper ∈ lw_tbl := z_in4 119 rfl
theorem yw_X9_judge : z_yw yX9_judge cX9_judge 7 (some .int) 2 := ⟨z_in4 124 rfl, z_in1 12 rfl, by decide +kernel⟩
theorem wi_X9_judge : Cond.instanceMethod yX9_judge ∈ lw_tbl := z_in4 123 rfl
theorem ws_X9_judge : Cond.selects yX9_judge.cls yX9_judge yX9_judge ∈ lw_tbl := List.mem_append_left _ (List.mem_map.mpr ⟨_, List.mem_of_getElem? (i := 21) (by rfl), rfl⟩)
theorem yw_X9_isTrustedAsTold : z_yw yX9_isTrustedAsTold cX9_isTrustedAsTold 2 (some .boolean) 1 := ⟨z_in4 138 rfl, z_in1 12 rfl, by decide +kernel⟩
theorem wi_X9_isTrustedAsTold : Cond.instanceMethod yX9_isTrustedAsTold ∈ lw_tbl := z_in4 137 rfl
theorem ws_X9_isTrustedAsTold : Cond.selects yX9_isTrustedAsTold.cls yX9_isTrustedAsTold yX9_isTrustedAsTold ∈ lw_tbl := List.mem_append_left _ (List.mem_map.mpr ⟨_, List.mem_of_getElem? (i := 22) (by rfl), rfl⟩)
theorem yw_X9_chooseImage : z_yw yX9_chooseImage cX9_chooseImage 8 (some .int) 0 := ⟨z_in4 142 rfl, z_in1 12 rfl, by decide +kernel⟩
theorem wi_X9_chooseImage : Cond.instanceMethod yX9_chooseImage ∈ lw_tbl := z_in4 141 rfl
theorem ws_X9_chooseImage : Cond.selects yX9_chooseImage.cls yX9_chooseImage yX9_chooseImage ∈ lw_tbl := List.mem_append_left _ (List.mem_map.mpr ⟨_, List.mem_of_getElem? (i := 23) (by rfl), rfl⟩)
theorem yw_X9_takePiece : z_yw yX9_takePiece cX9_takePiece 4 (some .int) 1 := ⟨z_in4 85 rfl, z_in1 12 rfl, by decide +kernel⟩
theorem wi_X9_takePiece : Cond.instanceMethod yX9_takePiece ∈ lw_tbl := z_in4 83 rfl
theorem ws_X9_takePiece : Cond.selects yX9_takePiece.cls yX9_takePiece yX9_takePiece ∈ lw_tbl := z_in4 84 rfl
theorem yw_X9_finishProgram : z_yw yX9_finishProgram cX9_finishProgram 2 (some .int) 0 := ⟨z_in4 97 rfl, z_in1 12 rfl, by decide +kernel⟩
theorem wi_X9_finishProgram : Cond.instanceMethod yX9_finishProgram ∈ lw_tbl := z_in4 96 rfl
theorem ws_X9_finishProgram : Cond.selects yX9_finishProgram.cls yX9_finishProgram yX9_finishProgram ∈ lw_tbl := List.mem_append_left _ (List.mem_map.mpr ⟨_, List.mem_of_getElem? (i := 19) (by rfl), rfl⟩)
theorem yw_X10_init : z_yw yX10_init cX10_init 5 none 1 := ⟨z_in1 19 rfl, z_in1 1 rfl, by decide +kernel⟩
theorem wi_X10_init : Cond.instanceMethod yX10_init ∈ lw_tbl := z_in1 18 rfl
theorem yw_X10_feed : z_yw yX10_feed cX10_feed 6 (some .int) 5 := ⟨z_in3 52 rfl, z_in1 1 rfl, by decide +kernel⟩
theorem wi_X10_feed : Cond.instanceMethod yX10_feed ∈ lw_tbl := z_in3 50 rfl
theorem ws_X10_feed : Cond.selects yX10_feed.cls yX10_feed yX10_feed ∈ lw_tbl := z_in3 51 rfl
theorem yw_X10_end : z_yw yX10_end cX10_end 2 (some .int) 1 := ⟨z_in3 61 rfl, z_in1 1 rfl, by decide +kernel⟩
theorem wi_X10_end : Cond.instanceMethod yX10_end ∈ lw_tbl := z_in3 59 rfl
theorem ws_X10_end : Cond.selects yX10_end.cls yX10_end yX10_end ∈ lw_tbl := z_in3 60 rfl
theorem yw_X10_byteOf : z_yw yX10_byteOf cX10_byteOf 2 (some .int) 1 := ⟨z_in3 69 rfl, z_in1 1 rfl, by decide +kernel⟩
theorem wi_X10_byteOf : Cond.instanceMethod yX10_byteOf ∈ lw_tbl := z_in3 67 rfl
theorem ws_X10_byteOf : Cond.selects yX10_byteOf.cls yX10_byteOf yX10_byteOf ∈ lw_tbl := z_in3 68 rfl
theorem yw_X10_plan : z_yw yX10_plan cX10_plan 4 (some .int) 3 := ⟨z_in3 78 rfl, z_in1 1 rfl, by decide +kernel⟩
theorem wi_X10_plan : Cond.instanceMethod yX10_plan ∈ lw_tbl := z_in3 76 rfl
theorem ws_X10_plan : Cond.selects yX10_plan.cls yX10_plan yX10_plan ∈ lw_tbl := z_in3 77 rfl
theorem yw_X10_image : z_yw yX10_image cX10_image 4 (some .int) 3 := ⟨z_in3 93 rfl, z_in1 1 rfl, by decide +kernel⟩
theorem wi_X10_image : Cond.instanceMethod yX10_image ∈ lw_tbl := z_in3 91 rfl
theorem ws_X10_image : Cond.selects yX10_image.cls yX10_image yX10_image ∈ lw_tbl := z_in3 92 rfl
theorem yw_X10_clear : z_yw yX10_clear cX10_clear 1 (some .int) 0 := ⟨z_in3 109 rfl, z_in1 1 rfl, by decide +kernel⟩
theorem wi_X10_clear : Cond.instanceMethod yX10_clear ∈ lw_tbl := z_in3 107 rfl
theorem ws_X10_clear : Cond.selects yX10_clear.cls yX10_clear yX10_clear ∈ lw_tbl := z_in3 108 rfl
theorem yw_X10_draft : z_yw yX10_draft cX10_draft 4 (some .int) 3 := ⟨z_in3 117 rfl, z_in1 1 rfl, by decide +kernel⟩
theorem wi_X10_draft : Cond.instanceMethod yX10_draft ∈ lw_tbl := z_in3 115 rfl
theorem ws_X10_draft : Cond.selects yX10_draft.cls yX10_draft yX10_draft ∈ lw_tbl := z_in3 116 rfl
theorem yw_X10_sign : z_yw yX10_sign cX10_sign 2 (some .int) 1 := ⟨z_in3 140 rfl, z_in1 1 rfl, by decide +kernel⟩
theorem wi_X10_sign : Cond.instanceMethod yX10_sign ∈ lw_tbl := z_in3 138 rfl
theorem ws_X10_sign : Cond.selects yX10_sign.cls yX10_sign yX10_sign ∈ lw_tbl := z_in3 139 rfl
theorem yw_X10_show : z_yw yX10_show cX10_show 1 (some .int) 0 := ⟨z_in3 156 rfl, z_in1 1 rfl, by decide +kernel⟩
theorem wi_X10_show : Cond.instanceMethod yX10_show ∈ lw_tbl := z_in3 154 rfl
theorem ws_X10_show : Cond.selects yX10_show.cls yX10_show yX10_show ∈ lw_tbl := z_in3 155 rfl
theorem yw_X10_piece : z_yw yX10_piece cX10_piece 3 (some .int) 2 := ⟨z_in3 169 rfl, z_in1 1 rfl, by decide +kernel⟩
theorem wi_X10_piece : Cond.instanceMethod yX10_piece ∈ lw_tbl := z_in3 167 rfl
theorem ws_X10_piece : Cond.selects yX10_piece.cls yX10_piece yX10_piece ∈ lw_tbl := z_in3 168 rfl
theorem yw_X10_spoil : z_yw yX10_spoil cX10_spoil 3 (some .int) 2 := ⟨z_in3 178 rfl, z_in1 1 rfl, by decide +kernel⟩
theorem wi_X10_spoil : Cond.instanceMethod yX10_spoil ∈ lw_tbl := z_in3 176 rfl
theorem ws_X10_spoil : Cond.selects yX10_spoil.cls yX10_spoil yX10_spoil ∈ lw_tbl := z_in3 177 rfl
theorem yw_X10_begin : z_yw yX10_begin cX10_begin 2 (some .int) 1 := ⟨z_in3 183 rfl, z_in1 1 rfl, by decide +kernel⟩
theorem wi_X10_begin : Cond.instanceMethod yX10_begin ∈ lw_tbl := z_in3 181 rfl
theorem ws_X10_begin : Cond.selects yX10_begin.cls yX10_begin yX10_begin ∈ lw_tbl := z_in3 182 rfl
theorem yw_X10_answer : z_yw yX10_answer cX10_answer 2 (some .int) 0 := ⟨z_in3 203 rfl, z_in1 1 rfl, by decide +kernel⟩
theorem wi_X10_answer : Cond.instanceMethod yX10_answer ∈ lw_tbl := z_in3 201 rfl
theorem ws_X10_answer : Cond.selects yX10_answer.cls yX10_answer yX10_answer ∈ lw_tbl := z_in3 202 rfl
theorem yw_X10_refuse : z_yw yX10_refuse cX10_refuse 1 (some .int) 0 := ⟨z_in4 171 rfl, z_in1 1 rfl, by decide +kernel⟩
theorem wi_X10_refuse : Cond.instanceMethod yX10_refuse ∈ lw_tbl := z_in4 169 rfl
theorem ws_X10_refuse : Cond.selects yX10_refuse.cls yX10_refuse yX10_refuse ∈ lw_tbl := z_in4 170 rfl
theorem yw_X10_awaits : z_yw yX10_awaits cX10_awaits 2 (some .int) 1 := ⟨z_in4 179 rfl, z_in1 1 rfl, by decide +kernel⟩
theorem wi_X10_awaits : Cond.instanceMethod yX10_awaits ∈ lw_tbl := z_in4 177 rfl
theorem ws_X10_awaits : Cond.selects yX10_awaits.cls yX10_awaits yX10_awaits ∈ lw_tbl := z_in4 178 rfl
theorem yw_X10_stop : z_yw yX10_stop cX10_stop 2 (some .int) 0 := ⟨z_in4 187 rfl, z_in1 1 rfl, by decide +kernel⟩
theorem wi_X10_stop : Cond.instanceMethod yX10_stop ∈ lw_tbl := z_in4 185 rfl
theorem ws_X10_stop : Cond.selects yX10_stop.cls yX10_stop yX10_stop ∈ lw_tbl := z_in4 186 rfl
theorem yw_X10_power : z_yw yX10_power cX10_power 3 (some .int) 2 := ⟨z_in4 191 rfl, z_in1 1 rfl, by decide +kernel⟩
theorem wi_X10_power : Cond.instanceMethod yX10_power ∈ lw_tbl := z_in4 189 rfl
theorem ws_X10_power : Cond.selects yX10_power.cls yX10_power yX10_power ∈ lw_tbl := z_in4 190 rfl
theorem yw_X10_boot : z_yw yX10_boot cX10_boot 1 (some .int) 0 := ⟨z_in4 199 rfl, z_in1 1 rfl, by decide +kernel⟩
theorem wi_X10_boot : Cond.instanceMethod yX10_boot ∈ lw_tbl := z_in4 197 rfl
theorem ws_X10_boot : Cond.selects yX10_boot.cls yX10_boot yX10_boot ∈ lw_tbl := z_in4 198 rfl
theorem yw_X10_test : z_yw yX10_test cX10_test 2 (some .int) 1 := ⟨z_in4 225 rfl, z_in1 1 rfl, by decide +kernel⟩
theorem wi_X10_test : Cond.instanceMethod yX10_test ∈ lw_tbl := z_in4 223 rfl
theorem ws_X10_test : Cond.selects yX10_test.cls yX10_test yX10_test ∈ lw_tbl := z_in4 224 rfl
theorem yw_X10_told : z_yw yX10_told cX10_told 2 (some .int) 1 := ⟨z_in5 3 rfl, z_in1 1 rfl, by decide +kernel⟩
theorem wi_X10_told : Cond.instanceMethod yX10_told ∈ lw_tbl := z_in5 1 rfl
theorem ws_X10_told : Cond.selects yX10_told.cls yX10_told yX10_told ∈ lw_tbl := z_in5 2 rfl
theorem yw_X10_trusted : z_yw yX10_trusted cX10_trusted 5 (some .int) 3 := ⟨z_in5 11 rfl, z_in1 1 rfl, by decide +kernel⟩
theorem wi_X10_trusted : Cond.instanceMethod yX10_trusted ∈ lw_tbl := z_in5 9 rfl
theorem ws_X10_trusted : Cond.selects yX10_trusted.cls yX10_trusted yX10_trusted ∈ lw_tbl := z_in5 10 rfl
theorem yw_X10_flash : z_yw yX10_flash cX10_flash 3 (some .int) 2 := ⟨z_in5 30 rfl, z_in1 1 rfl, by decide +kernel⟩
theorem wi_X10_flash : Cond.instanceMethod yX10_flash ∈ lw_tbl := z_in5 28 rfl
theorem ws_X10_flash : Cond.selects yX10_flash.cls yX10_flash yX10_flash ∈ lw_tbl := z_in5 29 rfl
theorem yw_X10_digest : z_yw yX10_digest cX10_digest 1 (some .long) 0 := ⟨z_in5 34 rfl, z_in1 1 rfl, by decide +kernel⟩
theorem wi_X10_digest : Cond.instanceMethod yX10_digest ∈ lw_tbl := z_in5 32 rfl
theorem ws_X10_digest : Cond.selects yX10_digest.cls yX10_digest yX10_digest ∈ lw_tbl := z_in5 33 rfl
theorem yw_X10_unlessDown : z_yw yX10_unlessDown cX10_unlessDown 2 (some .int) 1 := ⟨z_in4 162 rfl, z_in1 1 rfl, by decide +kernel⟩
theorem wi_X10_unlessDown : Cond.instanceMethod yX10_unlessDown ∈ lw_tbl := z_in4 161 rfl
theorem ws_X10_unlessDown : Cond.selects yX10_unlessDown.cls yX10_unlessDown yX10_unlessDown ∈ lw_tbl := List.mem_append_left _ (List.mem_map.mpr ⟨_, List.mem_of_getElem? (i := 24) (by rfl), rfl⟩)
theorem yw_X11_init : z_yw yX11_init cX11_init 3 none 1 := ⟨z_in5 43 rfl, z_in1 13 rfl, by decide +kernel⟩
theorem wi_X11_init : Cond.instanceMethod yX11_init ∈ lw_tbl := z_in5 42 rfl
theorem yw_X11_slotAt : z_yw yX11_slotAt cX11_slotAt 1 (some .int) 1 := ⟨z_in5 47 rfl, z_in1 13 rfl, by decide +kernel⟩
theorem ws_X11_slotAt : Cond.static yX11_slotAt ∈ lw_tbl := z_in5 46 rfl
theorem yw_X11_digestBegin : z_yw yX11_digestBegin cX11_digestBegin 1 none 0 := ⟨z_in5 55 rfl, z_in1 13 rfl, by decide +kernel⟩
theorem wi_X11_digestBegin : Cond.instanceMethod yX11_digestBegin ∈ lw_tbl := z_in5 54 rfl
theorem ws_X11_digestBegin : Cond.selects yX11_digestBegin.cls yX11_digestBegin yX11_digestBegin ∈ lw_tbl := List.mem_append_left _ (List.mem_map.mpr ⟨_, List.mem_of_getElem? (i := 30) (by rfl), rfl⟩)
theorem yw_X11_digestByte : z_yw yX11_digestByte cX11_digestByte 2 none 1 := ⟨z_in5 60 rfl, z_in1 13 rfl, by decide +kernel⟩
theorem wi_X11_digestByte : Cond.instanceMethod yX11_digestByte ∈ lw_tbl := z_in5 59 rfl
theorem ws_X11_digestByte : Cond.selects yX11_digestByte.cls yX11_digestByte yX11_digestByte ∈ lw_tbl := List.mem_append_left _ (List.mem_map.mpr ⟨_, List.mem_of_getElem? (i := 31) (by rfl), rfl⟩)
theorem yw_X11_slotDigest : z_yw yX11_slotDigest cX11_slotDigest 4 (some .long) 2 := ⟨z_in5 51 rfl, z_in1 13 rfl, by decide +kernel⟩
theorem wi_X11_slotDigest : Cond.instanceMethod yX11_slotDigest ∈ lw_tbl := z_in5 50 rfl
theorem ws_X11_slotDigest : Cond.selects yX11_slotDigest.cls yX11_slotDigest yX11_slotDigest ∈ lw_tbl := List.mem_append_left _ (List.mem_map.mpr ⟨_, List.mem_of_getElem? (i := 29) (by rfl), rfl⟩)
theorem yw_X11_feed : z_yw yX11_feed cX11_feed 8 (some .int) 5 := ⟨z_in6 84 rfl, z_in1 13 rfl, by decide +kernel⟩
theorem wi_X11_feed : Cond.instanceMethod yX11_feed ∈ lw_tbl := z_in6 82 rfl
theorem ws_X11_feed : Cond.selects yX11_feed.cls yX11_feed yX11_feed ∈ lw_tbl := z_in6 83 rfl
theorem yw_X11_end : z_yw yX11_end cX11_end 2 (some .int) 1 := ⟨z_in6 88 rfl, z_in1 13 rfl, by decide +kernel⟩
theorem wi_X11_end : Cond.instanceMethod yX11_end ∈ lw_tbl := z_in6 86 rfl
theorem ws_X11_end : Cond.selects yX11_end.cls yX11_end yX11_end ∈ lw_tbl := z_in6 87 rfl
theorem yw_X11_byteOf : z_yw yX11_byteOf cX11_byteOf 2 (some .int) 1 := ⟨z_in6 92 rfl, z_in1 13 rfl, by decide +kernel⟩
theorem wi_X11_byteOf : Cond.instanceMethod yX11_byteOf ∈ lw_tbl := z_in6 90 rfl
theorem ws_X11_byteOf : Cond.selects yX11_byteOf.cls yX11_byteOf yX11_byteOf ∈ lw_tbl := z_in6 91 rfl
theorem yw_X11_spoil : z_yw yX11_spoil cX11_spoil 3 (some .int) 2 := ⟨z_in6 96 rfl, z_in1 13 rfl, by decide +kernel⟩
theorem wi_X11_spoil : Cond.instanceMethod yX11_spoil ∈ lw_tbl := z_in6 94 rfl
theorem ws_X11_spoil : Cond.selects yX11_spoil.cls yX11_spoil yX11_spoil ∈ lw_tbl := z_in6 95 rfl
theorem yw_X11_digest : z_yw yX11_digest cX11_digest 2 (some .long) 0 := ⟨z_in6 100 rfl, z_in1 13 rfl, by decide +kernel⟩
theorem wi_X11_digest : Cond.instanceMethod yX11_digest ∈ lw_tbl := z_in6 98 rfl
theorem ws_X11_digest : Cond.selects yX11_digest.cls yX11_digest yX11_digest ∈ lw_tbl := z_in6 99 rfl
theorem yw_X11_hasPower : z_yw yX11_hasPower cX11_hasPower 1 (some .boolean) 0 := ⟨z_in6 128 rfl, z_in1 13 rfl, by decide +kernel⟩
theorem wi_X11_hasPower : Cond.instanceMethod yX11_hasPower ∈ lw_tbl := z_in6 127 rfl
theorem ws_X11_hasPower : Cond.selects yX11_hasPower.cls yX11_hasPower yX11_hasPower ∈ lw_tbl := List.mem_append_left _ (List.mem_map.mpr ⟨_, List.mem_of_getElem? (i := 43) (by rfl), rfl⟩)
theorem yw_X11_writePage : z_yw yX11_writePage cX11_writePage 3 none 1 := ⟨z_in6 124 rfl, z_in1 13 rfl, by decide +kernel⟩
theorem wi_X11_writePage : Cond.instanceMethod yX11_writePage ∈ lw_tbl := z_in6 123 rfl
theorem ws_X11_writePage : Cond.selects yX11_writePage.cls yX11_writePage yX11_writePage ∈ lw_tbl := List.mem_append_left _ (List.mem_map.mpr ⟨_, List.mem_of_getElem? (i := 42) (by rfl), rfl⟩)
theorem yw_X11_erase : z_yw yX11_erase cX11_erase 6 none 1 := ⟨z_in6 140 rfl, z_in1 13 rfl, by decide +kernel⟩
theorem wi_X11_erase : Cond.instanceMethod yX11_erase ∈ lw_tbl := z_in6 139 rfl
theorem ws_X11_erase : Cond.selects yX11_erase.cls yX11_erase yX11_erase ∈ lw_tbl := List.mem_append_left _ (List.mem_map.mpr ⟨_, List.mem_of_getElem? (i := 46) (by rfl), rfl⟩)
theorem yw_X11_flash : z_yw yX11_flash cX11_flash 3 (some .int) 2 := ⟨z_in6 104 rfl, z_in1 13 rfl, by decide +kernel⟩
theorem wi_X11_flash : Cond.instanceMethod yX11_flash ∈ lw_tbl := z_in6 102 rfl
theorem ws_X11_flash : Cond.selects yX11_flash.cls yX11_flash yX11_flash ∈ lw_tbl := z_in6 103 rfl
theorem yw_X11_wide : z_yw yX11_wide cX11_wide 5 (some .int) 2 := ⟨z_in5 74 rfl, z_in1 13 rfl, by decide +kernel⟩
theorem wi_X11_wide : Cond.instanceMethod yX11_wide ∈ lw_tbl := z_in5 73 rfl
theorem ws_X11_wide : Cond.selects yX11_wide.cls yX11_wide yX11_wide ∈ lw_tbl := List.mem_append_left _ (List.mem_map.mpr ⟨_, List.mem_of_getElem? (i := 34) (by rfl), rfl⟩)
theorem yw_X11_checkOf : z_yw yX11_checkOf cX11_checkOf 4 (some .int) 2 := ⟨z_in5 78 rfl, z_in1 13 rfl, by decide +kernel⟩
theorem wi_X11_checkOf : Cond.instanceMethod yX11_checkOf ∈ lw_tbl := z_in5 77 rfl
theorem ws_X11_checkOf : Cond.selects yX11_checkOf.cls yX11_checkOf yX11_checkOf ∈ lw_tbl := List.mem_append_left _ (List.mem_map.mpr ⟨_, List.mem_of_getElem? (i := 35) (by rfl), rfl⟩)
theorem yw_X11_checkNow : z_yw yX11_checkNow cX11_checkNow 2 (some .int) 0 := ⟨z_in5 82 rfl, z_in1 13 rfl, by decide +kernel⟩
theorem wi_X11_checkNow : Cond.instanceMethod yX11_checkNow ∈ lw_tbl := z_in5 81 rfl
theorem ws_X11_checkNow : Cond.selects yX11_checkNow.cls yX11_checkNow yX11_checkNow ∈ lw_tbl := List.mem_append_left _ (List.mem_map.mpr ⟨_, List.mem_of_getElem? (i := 36) (by rfl), rfl⟩)
theorem yw_X11_six : z_yw yX11_six cX11_six 5 (some .long) 1 := ⟨z_in5 86 rfl, z_in1 13 rfl, by decide +kernel⟩
theorem wi_X11_six : Cond.instanceMethod yX11_six ∈ lw_tbl := z_in5 85 rfl
theorem ws_X11_six : Cond.selects yX11_six.cls yX11_six yX11_six ∈ lw_tbl := List.mem_append_left _ (List.mem_map.mpr ⟨_, List.mem_of_getElem? (i := 37) (by rfl), rfl⟩)
theorem yw_X11_isState : z_yw yX11_isState cX11_isState 6 (some .boolean) 1 := ⟨z_in5 70 rfl, z_in1 13 rfl, by decide +kernel⟩
theorem wi_X11_isState : Cond.instanceMethod yX11_isState ∈ lw_tbl := z_in5 69 rfl
theorem ws_X11_isState : Cond.selects yX11_isState.cls yX11_isState yX11_isState ∈ lw_tbl := List.mem_append_left _ (List.mem_map.mpr ⟨_, List.mem_of_getElem? (i := 33) (by rfl), rfl⟩)
theorem yw_X11_layState : z_yw yX11_layState cX11_layState 3 none 0 := ⟨z_in5 66 rfl, z_in1 13 rfl, by decide +kernel⟩
theorem wi_X11_layState : Cond.instanceMethod yX11_layState ∈ lw_tbl := z_in5 65 rfl
theorem ws_X11_layState : Cond.selects yX11_layState.cls yX11_layState yX11_layState ∈ lw_tbl := List.mem_append_left _ (List.mem_map.mpr ⟨_, List.mem_of_getElem? (i := 32) (by rfl), rfl⟩)
theorem yw_X11_put : z_yw yX11_put cX11_put 5 none 2 := ⟨z_in5 94 rfl, z_in1 13 rfl, by decide +kernel⟩
theorem wi_X11_put : Cond.instanceMethod yX11_put ∈ lw_tbl := z_in5 93 rfl
theorem ws_X11_put : Cond.selects yX11_put.cls yX11_put yX11_put ∈ lw_tbl := List.mem_append_left _ (List.mem_map.mpr ⟨_, List.mem_of_getElem? (i := 39) (by rfl), rfl⟩)
theorem yw_X11_layPage : z_yw yX11_layPage cX11_layPage 3 none 1 := ⟨z_in5 90 rfl, z_in1 13 rfl, by decide +kernel⟩
theorem wi_X11_layPage : Cond.instanceMethod yX11_layPage ∈ lw_tbl := z_in5 89 rfl
theorem ws_X11_layPage : Cond.selects yX11_layPage.cls yX11_layPage yX11_layPage ∈ lw_tbl := List.mem_append_left _ (List.mem_map.mpr ⟨_, List.mem_of_getElem? (i := 38) (by rfl), rfl⟩)
theorem yw_X11_isErased : z_yw yX11_isErased cX11_isErased 4 (some .boolean) 1 := ⟨z_in6 136 rfl, z_in1 13 rfl, by decide +kernel⟩
theorem wi_X11_isErased : Cond.instanceMethod yX11_isErased ∈ lw_tbl := z_in6 135 rfl
theorem ws_X11_isErased : Cond.selects yX11_isErased.cls yX11_isErased yX11_isErased ∈ lw_tbl := List.mem_append_left _ (List.mem_map.mpr ⟨_, List.mem_of_getElem? (i := 45) (by rfl), rfl⟩)
theorem yw_X11_writeState : z_yw yX11_writeState cX11_writeState 7 none 1 := ⟨z_in6 132 rfl, z_in1 13 rfl, by decide +kernel⟩
theorem wi_X11_writeState : Cond.instanceMethod yX11_writeState ∈ lw_tbl := z_in6 131 rfl
theorem ws_X11_writeState : Cond.selects yX11_writeState.cls yX11_writeState yX11_writeState ∈ lw_tbl := List.mem_append_left _ (List.mem_map.mpr ⟨_, List.mem_of_getElem? (i := 44) (by rfl), rfl⟩)
theorem yw_X11_docWide : z_yw yX11_docWide cX11_docWide 5 (some .int) 2 := ⟨z_in6 148 rfl, z_in1 13 rfl, by decide +kernel⟩
theorem wi_X11_docWide : Cond.instanceMethod yX11_docWide ∈ lw_tbl := z_in6 147 rfl
theorem ws_X11_docWide : Cond.selects yX11_docWide.cls yX11_docWide yX11_docWide ∈ lw_tbl := List.mem_append_left _ (List.mem_map.mpr ⟨_, List.mem_of_getElem? (i := 48) (by rfl), rfl⟩)
theorem yw_X11_docLong : z_yw yX11_docLong cX11_docLong 2 (some .long) 1 := ⟨z_in6 165 rfl, z_in1 13 rfl, by decide +kernel⟩
theorem wi_X11_docLong : Cond.instanceMethod yX11_docLong ∈ lw_tbl := z_in6 164 rfl
theorem ws_X11_docLong : Cond.selects yX11_docLong.cls yX11_docLong yX11_docLong ∈ lw_tbl := List.mem_append_left _ (List.mem_map.mpr ⟨_, List.mem_of_getElem? (i := 52) (by rfl), rfl⟩)
theorem yw_X11_keysAt : z_yw yX11_keysAt cX11_keysAt 7 (some .int) 2 := ⟨z_in6 152 rfl, z_in1 13 rfl, by decide +kernel⟩
theorem wi_X11_keysAt : Cond.instanceMethod yX11_keysAt ∈ lw_tbl := z_in6 151 rfl
theorem ws_X11_keysAt : Cond.selects yX11_keysAt.cls yX11_keysAt yX11_keysAt ∈ lw_tbl := List.mem_append_left _ (List.mem_map.mpr ⟨_, List.mem_of_getElem? (i := 49) (by rfl), rfl⟩)
theorem yw_X11_readDoc : z_yw yX11_readDoc cX11_readDoc 2 (some .boolean) 0 := ⟨z_in6 144 rfl, z_in1 13 rfl, by decide +kernel⟩
theorem wi_X11_readDoc : Cond.instanceMethod yX11_readDoc ∈ lw_tbl := z_in6 143 rfl
theorem ws_X11_readDoc : Cond.selects yX11_readDoc.cls yX11_readDoc yX11_readDoc ∈ lw_tbl := List.mem_append_left _ (List.mem_map.mpr ⟨_, List.mem_of_getElem? (i := 47) (by rfl), rfl⟩)
theorem yw_X11_readRoles : z_yw yX11_readRoles cX11_readRoles 6 (some .boolean) 0 := ⟨z_in6 157 rfl, z_in1 13 rfl, by decide +kernel⟩
theorem wi_X11_readRoles : Cond.instanceMethod yX11_readRoles ∈ lw_tbl := z_in6 156 rfl
theorem ws_X11_readRoles : Cond.selects yX11_readRoles.cls yX11_readRoles yX11_readRoles ∈ lw_tbl := List.mem_append_left _ (List.mem_map.mpr ⟨_, List.mem_of_getElem? (i := 50) (by rfl), rfl⟩)
theorem yw_X11_readImages : z_yw yX11_readImages cX11_readImages 5 (some .boolean) 0 := ⟨z_in6 161 rfl, z_in1 13 rfl, by decide +kernel⟩
theorem wi_X11_readImages : Cond.instanceMethod yX11_readImages ∈ lw_tbl := z_in6 160 rfl
theorem ws_X11_readImages : Cond.selects yX11_readImages.cls yX11_readImages yX11_readImages ∈ lw_tbl := List.mem_append_left _ (List.mem_map.mpr ⟨_, List.mem_of_getElem? (i := 51) (by rfl), rfl⟩)
theorem yw_X11_bodyDigest : z_yw yX11_bodyDigest cX11_bodyDigest 2 (some .long) 0 := ⟨z_in6 194 rfl, z_in1 13 rfl, by decide +kernel⟩
theorem wi_X11_bodyDigest : Cond.instanceMethod yX11_bodyDigest ∈ lw_tbl := z_in6 193 rfl
theorem ws_X11_bodyDigest : Cond.selects yX11_bodyDigest.cls yX11_bodyDigest yX11_bodyDigest ∈ lw_tbl := List.mem_append_left _ (List.mem_map.mpr ⟨_, List.mem_of_getElem? (i := 59) (by rfl), rfl⟩)
theorem yw_X11_hasSigned : z_yw yX11_hasSigned cX11_hasSigned 6 (some .boolean) 2 := ⟨z_in6 198 rfl, z_in1 13 rfl, by decide +kernel⟩
theorem wi_X11_hasSigned : Cond.instanceMethod yX11_hasSigned ∈ lw_tbl := z_in6 197 rfl
theorem ws_X11_hasSigned : Cond.selects yX11_hasSigned.cls yX11_hasSigned yX11_hasSigned ∈ lw_tbl := List.mem_append_left _ (List.mem_map.mpr ⟨_, List.mem_of_getElem? (i := 60) (by rfl), rfl⟩)
theorem yw_X11_has : z_yw yX11_has cX11_has 8 (some .boolean) 2 := ⟨z_in6 190 rfl, z_in1 13 rfl, by decide +kernel⟩
theorem wi_X11_has : Cond.instanceMethod yX11_has ∈ lw_tbl := z_in6 189 rfl
theorem ws_X11_has : Cond.selects yX11_has.cls yX11_has yX11_has ∈ lw_tbl := List.mem_append_left _ (List.mem_map.mpr ⟨_, List.mem_of_getElem? (i := 58) (by rfl), rfl⟩)
theorem yw_X11_isRecord : z_yw yX11_isRecord cX11_isRecord 5 (some .boolean) 3 := ⟨z_in6 181 rfl, z_in1 13 rfl, by decide +kernel⟩
theorem wi_X11_isRecord : Cond.instanceMethod yX11_isRecord ∈ lw_tbl := z_in6 180 rfl
theorem ws_X11_isRecord : Cond.selects yX11_isRecord.cls yX11_isRecord yX11_isRecord ∈ lw_tbl := List.mem_append_left _ (List.mem_map.mpr ⟨_, List.mem_of_getElem? (i := 56) (by rfl), rfl⟩)
theorem yw_X11_findRecord : z_yw yX11_findRecord cX11_findRecord 6 none 1 := ⟨z_in6 177 rfl, z_in1 13 rfl, by decide +kernel⟩
theorem wi_X11_findRecord : Cond.instanceMethod yX11_findRecord ∈ lw_tbl := z_in6 176 rfl
theorem ws_X11_findRecord : Cond.selects yX11_findRecord.cls yX11_findRecord yX11_findRecord ∈ lw_tbl := List.mem_append_left _ (List.mem_map.mpr ⟨_, List.mem_of_getElem? (i := 55) (by rfl), rfl⟩)
theorem yw_X11_takeTrusted : z_yw yX11_takeTrusted cX11_takeTrusted 3 (some .boolean) 1 := ⟨z_in6 173 rfl, z_in1 13 rfl, by decide +kernel⟩
theorem wi_X11_takeTrusted : Cond.instanceMethod yX11_takeTrusted ∈ lw_tbl := z_in6 172 rfl
theorem ws_X11_takeTrusted : Cond.selects yX11_takeTrusted.cls yX11_takeTrusted yX11_takeTrusted ∈ lw_tbl := List.mem_append_left _ (List.mem_map.mpr ⟨_, List.mem_of_getElem? (i := 54) (by rfl), rfl⟩)
theorem yw_X11_keepRecord : z_yw yX11_keepRecord cX11_keepRecord 9 none 2 := ⟨z_in6 206 rfl, z_in1 13 rfl, by decide +kernel⟩
theorem wi_X11_keepRecord : Cond.instanceMethod yX11_keepRecord ∈ lw_tbl := z_in6 205 rfl
theorem ws_X11_keepRecord : Cond.selects yX11_keepRecord.cls yX11_keepRecord yX11_keepRecord ∈ lw_tbl := List.mem_append_left _ (List.mem_map.mpr ⟨_, List.mem_of_getElem? (i := 62) (by rfl), rfl⟩)
theorem yw_X11_keepDoc : z_yw yX11_keepDoc cX11_keepDoc 2 none 0 := ⟨z_in6 210 rfl, z_in1 13 rfl, by decide +kernel⟩
theorem wi_X11_keepDoc : Cond.instanceMethod yX11_keepDoc ∈ lw_tbl := z_in6 209 rfl
theorem ws_X11_keepDoc : Cond.selects yX11_keepDoc.cls yX11_keepDoc yX11_keepDoc ∈ lw_tbl := List.mem_append_left _ (List.mem_map.mpr ⟨_, List.mem_of_getElem? (i := 63) (by rfl), rfl⟩)
theorem yw_X11_takeCame : z_yw yX11_takeCame cX11_takeCame 2 none 0 := ⟨z_in6 186 rfl, z_in1 13 rfl, by decide +kernel⟩
theorem wi_X11_takeCame : Cond.instanceMethod yX11_takeCame ∈ lw_tbl := z_in6 185 rfl
theorem ws_X11_takeCame : Cond.selects yX11_takeCame.cls yX11_takeCame yX11_takeCame ∈ lw_tbl := List.mem_append_left _ (List.mem_map.mpr ⟨_, List.mem_of_getElem? (i := 57) (by rfl), rfl⟩)
theorem yw_X11_fail : z_yw yX11_fail cX11_fail 2 (some .int) 1 := ⟨z_in6 120 rfl, z_in1 13 rfl, by decide +kernel⟩
theorem wi_X11_fail : Cond.instanceMethod yX11_fail ∈ lw_tbl := z_in6 119 rfl
theorem ws_X11_fail : Cond.selects yX11_fail.cls yX11_fail yX11_fail ∈ lw_tbl := List.mem_append_left _ (List.mem_map.mpr ⟨_, List.mem_of_getElem? (i := 41) (by rfl), rfl⟩)
theorem yw_X11_begin : z_yw yX11_begin cX11_begin 2 (some .int) 1 := ⟨z_in6 108 rfl, z_in1 13 rfl, by decide +kernel⟩
theorem wi_X11_begin : Cond.instanceMethod yX11_begin ∈ lw_tbl := z_in6 106 rfl
theorem ws_X11_begin : Cond.selects yX11_begin.cls yX11_begin yX11_begin ∈ lw_tbl := z_in6 107 rfl
theorem yw_X11_answer : z_yw yX11_answer cX11_answer 4 (some .int) 0 := ⟨z_in6 112 rfl, z_in1 13 rfl, by decide +kernel⟩
theorem wi_X11_answer : Cond.instanceMethod yX11_answer ∈ lw_tbl := z_in6 110 rfl
theorem ws_X11_answer : Cond.selects yX11_answer.cls yX11_answer yX11_answer ∈ lw_tbl := z_in6 111 rfl
theorem yw_X11_refuse : z_yw yX11_refuse cX11_refuse 2 (some .int) 0 := ⟨z_in7 14 rfl, z_in1 13 rfl, by decide +kernel⟩
theorem wi_X11_refuse : Cond.instanceMethod yX11_refuse ∈ lw_tbl := z_in7 12 rfl
theorem ws_X11_refuse : Cond.selects yX11_refuse.cls yX11_refuse yX11_refuse ∈ lw_tbl := z_in7 13 rfl
theorem yw_X11_takeRole : z_yw yX11_takeRole cX11_takeRole 3 none 1 := ⟨z_in6 218 rfl, z_in1 13 rfl, by decide +kernel⟩
theorem wi_X11_takeRole : Cond.instanceMethod yX11_takeRole ∈ lw_tbl := z_in6 217 rfl
theorem ws_X11_takeRole : Cond.selects yX11_takeRole.cls yX11_takeRole yX11_takeRole ∈ lw_tbl := List.mem_append_left _ (List.mem_map.mpr ⟨_, List.mem_of_getElem? (i := 65) (by rfl), rfl⟩)
theorem yw_X11_takeRoot : z_yw yX11_takeRoot cX11_takeRoot 10 (some .int) 0 := ⟨z_in6 169 rfl, z_in1 13 rfl, by decide +kernel⟩
theorem wi_X11_takeRoot : Cond.instanceMethod yX11_takeRoot ∈ lw_tbl := z_in6 168 rfl
theorem ws_X11_takeRoot : Cond.selects yX11_takeRoot.cls yX11_takeRoot yX11_takeRoot ∈ lw_tbl := List.mem_append_left _ (List.mem_map.mpr ⟨_, List.mem_of_getElem? (i := 53) (by rfl), rfl⟩)
theorem yw_X11_dropTrusted : z_yw yX11_dropTrusted cX11_dropTrusted 2 none 1 := ⟨z_in6 202 rfl, z_in1 13 rfl, by decide +kernel⟩
theorem wi_X11_dropTrusted : Cond.instanceMethod yX11_dropTrusted ∈ lw_tbl := z_in6 201 rfl
theorem ws_X11_dropTrusted : Cond.selects yX11_dropTrusted.cls yX11_dropTrusted yX11_dropTrusted ∈ lw_tbl := List.mem_append_left _ (List.mem_map.mpr ⟨_, List.mem_of_getElem? (i := 61) (by rfl), rfl⟩)
theorem yw_X11_takeWas : z_yw yX11_takeWas cX11_takeWas 2 none 1 := ⟨z_in6 222 rfl, z_in1 13 rfl, by decide +kernel⟩
theorem wi_X11_takeWas : Cond.instanceMethod yX11_takeWas ∈ lw_tbl := z_in6 221 rfl
theorem ws_X11_takeWas : Cond.selects yX11_takeWas.cls yX11_takeWas yX11_takeWas ∈ lw_tbl := List.mem_append_left _ (List.mem_map.mpr ⟨_, List.mem_of_getElem? (i := 66) (by rfl), rfl⟩)
theorem yw_X11_keepOther : z_yw yX11_keepOther cX11_keepOther 6 none 1 := ⟨z_in6 226 rfl, z_in1 13 rfl, by decide +kernel⟩
theorem wi_X11_keepOther : Cond.instanceMethod yX11_keepOther ∈ lw_tbl := z_in6 225 rfl
theorem ws_X11_keepOther : Cond.selects yX11_keepOther.cls yX11_keepOther yX11_keepOther ∈ lw_tbl := List.mem_append_left _ (List.mem_map.mpr ⟨_, List.mem_of_getElem? (i := 67) (by rfl), rfl⟩)
theorem yw_X11_takeTime : z_yw yX11_takeTime cX11_takeTime 1 (some .int) 0 := ⟨z_in6 214 rfl, z_in1 13 rfl, by decide +kernel⟩
theorem wi_X11_takeTime : Cond.instanceMethod yX11_takeTime ∈ lw_tbl := z_in6 213 rfl
theorem ws_X11_takeTime : Cond.selects yX11_takeTime.cls yX11_takeTime yX11_takeTime ∈ lw_tbl := List.mem_append_left _ (List.mem_map.mpr ⟨_, List.mem_of_getElem? (i := 64) (by rfl), rfl⟩)
theorem yw_X11_goToList : z_yw yX11_goToList cX11_goToList 4 (some .int) 0 := ⟨z_in6 230 rfl, z_in1 13 rfl, by decide +kernel⟩
theorem wi_X11_goToList : Cond.instanceMethod yX11_goToList ∈ lw_tbl := z_in6 229 rfl
theorem ws_X11_goToList : Cond.selects yX11_goToList.cls yX11_goToList yX11_goToList ∈ lw_tbl := List.mem_append_left _ (List.mem_map.mpr ⟨_, List.mem_of_getElem? (i := 68) (by rfl), rfl⟩)
theorem yw_X11_saveCame : z_yw yX11_saveCame cX11_saveCame 2 none 0 := ⟨z_in6 234 rfl, z_in1 13 rfl, by decide +kernel⟩
theorem wi_X11_saveCame : Cond.instanceMethod yX11_saveCame ∈ lw_tbl := z_in6 233 rfl
theorem ws_X11_saveCame : Cond.selects yX11_saveCame.cls yX11_saveCame yX11_saveCame ∈ lw_tbl := List.mem_append_left _ (List.mem_map.mpr ⟨_, List.mem_of_getElem? (i := 69) (by rfl), rfl⟩)
theorem yw_X11_takeList : z_yw yX11_takeList cX11_takeList 5 (some .int) 0 := ⟨z_in6 238 rfl, z_in1 13 rfl, by decide +kernel⟩
theorem wi_X11_takeList : Cond.instanceMethod yX11_takeList ∈ lw_tbl := z_in6 237 rfl
theorem ws_X11_takeList : Cond.selects yX11_takeList.cls yX11_takeList yX11_takeList ∈ lw_tbl := List.mem_append_left _ (List.mem_map.mpr ⟨_, List.mem_of_getElem? (i := 70) (by rfl), rfl⟩)
theorem yw_X11_goToImages : z_yw yX11_goToImages cX11_goToImages 4 (some .int) 0 := ⟨z_in7 2 rfl, z_in1 13 rfl, by decide +kernel⟩
theorem wi_X11_goToImages : Cond.instanceMethod yX11_goToImages ∈ lw_tbl := z_in7 1 rfl
theorem ws_X11_goToImages : Cond.selects yX11_goToImages.cls yX11_goToImages yX11_goToImages ∈ lw_tbl := List.mem_append_left _ (List.mem_map.mpr ⟨_, List.mem_of_getElem? (i := 71) (by rfl), rfl⟩)
theorem yw_X11_takeImages : z_yw yX11_takeImages cX11_takeImages 5 (some .int) 0 := ⟨z_in7 6 rfl, z_in1 13 rfl, by decide +kernel⟩
theorem wi_X11_takeImages : Cond.instanceMethod yX11_takeImages ∈ lw_tbl := z_in7 5 rfl
theorem ws_X11_takeImages : Cond.selects yX11_takeImages.cls yX11_takeImages yX11_takeImages ∈ lw_tbl := List.mem_append_left _ (List.mem_map.mpr ⟨_, List.mem_of_getElem? (i := 72) (by rfl), rfl⟩)
theorem yw_X11_goToPieces : z_yw yX11_goToPieces cX11_goToPieces 4 (some .int) 0 := ⟨z_in7 10 rfl, z_in1 13 rfl, by decide +kernel⟩
theorem wi_X11_goToPieces : Cond.instanceMethod yX11_goToPieces ∈ lw_tbl := z_in7 9 rfl
theorem ws_X11_goToPieces : Cond.selects yX11_goToPieces.cls yX11_goToPieces yX11_goToPieces ∈ lw_tbl := List.mem_append_left _ (List.mem_map.mpr ⟨_, List.mem_of_getElem? (i := 73) (by rfl), rfl⟩)
theorem yw_X11_takePiece : z_yw yX11_takePiece cX11_takePiece 6 (some .int) 1 := ⟨z_in6 116 rfl, z_in1 13 rfl, by decide +kernel⟩
theorem wi_X11_takePiece : Cond.instanceMethod yX11_takePiece ∈ lw_tbl := z_in6 115 rfl
theorem ws_X11_takePiece : Cond.selects yX11_takePiece.cls yX11_takePiece yX11_takePiece ∈ lw_tbl := List.mem_append_left _ (List.mem_map.mpr ⟨_, List.mem_of_getElem? (i := 40) (by rfl), rfl⟩)
theorem yw_X11_awaits : z_yw yX11_awaits cX11_awaits 3 (some .int) 1 := ⟨z_in7 18 rfl, z_in1 13 rfl, by decide +kernel⟩
theorem wi_X11_awaits : Cond.instanceMethod yX11_awaits ∈ lw_tbl := z_in7 16 rfl
theorem ws_X11_awaits : Cond.selects yX11_awaits.cls yX11_awaits yX11_awaits ∈ lw_tbl := z_in7 17 rfl
theorem yw_X11_stop : z_yw yX11_stop cX11_stop 2 (some .int) 0 := ⟨z_in7 22 rfl, z_in1 13 rfl, by decide +kernel⟩
theorem wi_X11_stop : Cond.instanceMethod yX11_stop ∈ lw_tbl := z_in7 20 rfl
theorem ws_X11_stop : Cond.selects yX11_stop.cls yX11_stop yX11_stop ∈ lw_tbl := z_in7 21 rfl
theorem yw_X11_power : z_yw yX11_power cX11_power 3 (some .int) 2 := ⟨z_in7 26 rfl, z_in1 13 rfl, by decide +kernel⟩
theorem wi_X11_power : Cond.instanceMethod yX11_power ∈ lw_tbl := z_in7 24 rfl
theorem ws_X11_power : Cond.selects yX11_power.cls yX11_power yX11_power ∈ lw_tbl := z_in7 25 rfl
theorem yw_X11_runConfirmed : z_yw yX11_runConfirmed cX11_runConfirmed 2 none 0 := ⟨z_in7 34 rfl, z_in1 13 rfl, by decide +kernel⟩
theorem wi_X11_runConfirmed : Cond.instanceMethod yX11_runConfirmed ∈ lw_tbl := z_in7 33 rfl
theorem ws_X11_runConfirmed : Cond.selects yX11_runConfirmed.cls yX11_runConfirmed yX11_runConfirmed ∈ lw_tbl := List.mem_append_left _ (List.mem_map.mpr ⟨_, List.mem_of_getElem? (i := 74) (by rfl), rfl⟩)
theorem yw_X11_boot : z_yw yX11_boot cX11_boot 1 (some .int) 0 := ⟨z_in7 30 rfl, z_in1 13 rfl, by decide +kernel⟩
theorem wi_X11_boot : Cond.instanceMethod yX11_boot ∈ lw_tbl := z_in7 28 rfl
theorem ws_X11_boot : Cond.selects yX11_boot.cls yX11_boot yX11_boot ∈ lw_tbl := z_in7 29 rfl
theorem yw_X11_test : z_yw yX11_test cX11_test 2 (some .int) 1 := ⟨z_in7 38 rfl, z_in1 13 rfl, by decide +kernel⟩
theorem wi_X11_test : Cond.instanceMethod yX11_test ∈ lw_tbl := z_in7 36 rfl
theorem ws_X11_test : Cond.selects yX11_test.cls yX11_test yX11_test ∈ lw_tbl := z_in7 37 rfl
theorem yw_X11_told : z_yw yX11_told cX11_told 2 (some .int) 1 := ⟨z_in7 42 rfl, z_in1 13 rfl, by decide +kernel⟩
theorem wi_X11_told : Cond.instanceMethod yX11_told ∈ lw_tbl := z_in7 40 rfl
theorem ws_X11_told : Cond.selects yX11_told.cls yX11_told yX11_told ∈ lw_tbl := z_in7 41 rfl
theorem yw_X11_trusted : z_yw yX11_trusted cX11_trusted 6 (some .int) 3 := ⟨z_in7 46 rfl, z_in1 13 rfl, by decide +kernel⟩
theorem wi_X11_trusted : Cond.instanceMethod yX11_trusted ∈ lw_tbl := z_in7 44 rfl
theorem ws_X11_trusted : Cond.selects yX11_trusted.cls yX11_trusted yX11_trusted ∈ lw_tbl := z_in7 45 rfl
theorem yw_X11_plan : z_yw yX11_plan cX11_plan 6 (some .int) 3 := ⟨z_in7 50 rfl, z_in1 13 rfl, by decide +kernel⟩
theorem wi_X11_plan : Cond.instanceMethod yX11_plan ∈ lw_tbl := z_in7 48 rfl
theorem ws_X11_plan : Cond.selects yX11_plan.cls yX11_plan yX11_plan ∈ lw_tbl := z_in7 49 rfl
theorem yw_X11_image : z_yw yX11_image cX11_image 5 (some .int) 3 := ⟨z_in7 55 rfl, z_in1 13 rfl, by decide +kernel⟩
theorem wi_X11_image : Cond.instanceMethod yX11_image ∈ lw_tbl := z_in7 53 rfl
theorem ws_X11_image : Cond.selects yX11_image.cls yX11_image yX11_image ∈ lw_tbl := z_in7 54 rfl
theorem yw_X11_clear : z_yw yX11_clear cX11_clear 2 (some .int) 0 := ⟨z_in7 59 rfl, z_in1 13 rfl, by decide +kernel⟩
theorem wi_X11_clear : Cond.instanceMethod yX11_clear ∈ lw_tbl := z_in7 57 rfl
theorem ws_X11_clear : Cond.selects yX11_clear.cls yX11_clear yX11_clear ∈ lw_tbl := z_in7 58 rfl
theorem yw_X11_imageByte : z_yw yX11_imageByte cX11_imageByte 3 (some .int) 2 := ⟨z_in7 78 rfl, z_in1 13 rfl, by decide +kernel⟩
theorem wi_X11_imageByte : Cond.instanceMethod yX11_imageByte ∈ lw_tbl := z_in7 77 rfl
theorem ws_X11_imageByte : Cond.selects yX11_imageByte.cls yX11_imageByte yX11_imageByte ∈ lw_tbl := List.mem_append_left _ (List.mem_map.mpr ⟨_, List.mem_of_getElem? (i := 77) (by rfl), rfl⟩)
theorem yw_X11_draftPut : z_yw yX11_draftPut cX11_draftPut 5 none 2 := ⟨z_in7 67 rfl, z_in1 13 rfl, by decide +kernel⟩
theorem wi_X11_draftPut : Cond.instanceMethod yX11_draftPut ∈ lw_tbl := z_in7 66 rfl
theorem ws_X11_draftPut : Cond.selects yX11_draftPut.cls yX11_draftPut yX11_draftPut ∈ lw_tbl := List.mem_append_left _ (List.mem_map.mpr ⟨_, List.mem_of_getElem? (i := 75) (by rfl), rfl⟩)
theorem yw_X11_draftKeysOf : z_yw yX11_draftKeysOf cX11_draftKeysOf 3 none 1 := ⟨z_in7 74 rfl, z_in1 13 rfl, by decide +kernel⟩
theorem wi_X11_draftKeysOf : Cond.instanceMethod yX11_draftKeysOf ∈ lw_tbl := z_in7 73 rfl
theorem ws_X11_draftKeysOf : Cond.selects yX11_draftKeysOf.cls yX11_draftKeysOf yX11_draftKeysOf ∈ lw_tbl := List.mem_append_left _ (List.mem_map.mpr ⟨_, List.mem_of_getElem? (i := 76) (by rfl), rfl⟩)
theorem yw_X11_many : z_yw yX11_many cX11_many 3 (some .int) 1 := ⟨z_in7 70 rfl, z_in1 13 rfl, by decide +kernel⟩
theorem ws_X11_many : Cond.static yX11_many ∈ lw_tbl := z_in7 69 rfl
theorem yw_X11_draftDigest : z_yw yX11_draftDigest cX11_draftDigest 2 (some .long) 0 := ⟨z_in7 82 rfl, z_in1 13 rfl, by decide +kernel⟩
theorem wi_X11_draftDigest : Cond.instanceMethod yX11_draftDigest ∈ lw_tbl := z_in7 81 rfl
theorem ws_X11_draftDigest : Cond.selects yX11_draftDigest.cls yX11_draftDigest yX11_draftDigest ∈ lw_tbl := List.mem_append_left _ (List.mem_map.mpr ⟨_, List.mem_of_getElem? (i := 78) (by rfl), rfl⟩)
theorem yw_X11_draft : z_yw yX11_draft cX11_draft 7 (some .int) 3 := ⟨z_in7 63 rfl, z_in1 13 rfl, by decide +kernel⟩
theorem wi_X11_draft : Cond.instanceMethod yX11_draft ∈ lw_tbl := z_in7 61 rfl
theorem ws_X11_draft : Cond.selects yX11_draft.cls yX11_draft yX11_draft ∈ lw_tbl := z_in7 62 rfl
theorem yw_X11_sign : z_yw yX11_sign cX11_sign 4 (some .int) 1 := ⟨z_in7 86 rfl, z_in1 13 rfl, by decide +kernel⟩
theorem wi_X11_sign : Cond.instanceMethod yX11_sign ∈ lw_tbl := z_in7 84 rfl
theorem ws_X11_sign : Cond.selects yX11_sign.cls yX11_sign yX11_sign ∈ lw_tbl := z_in7 85 rfl
theorem yw_X11_show : z_yw yX11_show cX11_show 2 (some .int) 0 := ⟨z_in7 90 rfl, z_in1 13 rfl, by decide +kernel⟩
theorem wi_X11_show : Cond.instanceMethod yX11_show ∈ lw_tbl := z_in7 88 rfl
theorem ws_X11_show : Cond.selects yX11_show.cls yX11_show yX11_show ∈ lw_tbl := z_in7 89 rfl
theorem yw_X11_piece : z_yw yX11_piece cX11_piece 6 (some .int) 2 := ⟨z_in7 94 rfl, z_in1 13 rfl, by decide +kernel⟩
theorem wi_X11_piece : Cond.instanceMethod yX11_piece ∈ lw_tbl := z_in7 92 rfl
theorem ws_X11_piece : Cond.selects yX11_piece.cls yX11_piece yX11_piece ∈ lw_tbl := z_in7 93 rfl
theorem yw_J6_bitCount_0f7a4 : z_yw yJ6_bitCount_0f7a4 cJ6_bitCount_0f7a4 1 (some .int) 1 := ⟨z_in3 85 rfl, z_in1 14 rfl, by decide +kernel⟩
theorem ws_J6_bitCount_0f7a4 : Cond.static yJ6_bitCount_0f7a4 ∈ lw_tbl := z_in3 84 rfl
theorem yw_L_cell : z_yw yL_cell cL_cell 2 (some .int) 2 := ⟨z_in5 38 rfl, z_in1 0 rfl, by decide +kernel⟩
theorem ws_L_cell : Cond.static yL_cell ∈ lw_tbl := z_in5 37 rfl
