theorem w_2079 : Cond.constantLong RL 19 (4294967295) ∈ g_tb := g_in9 32 (by decide +kernel) rfl
/-! The law's loop, a case a method, out of the duties D_..: the class and the reference answer alike, and what holds between them (Inv) holds behind it. -/
def l_q : Option Value → PH → Prop := fun v _ => v = some (.int 1)
abbrev LG (Γ : GX) (pc : Nat) (b x yy o : Nat) (i : Int32) (h : PH) (cs : Nat × Nat) : Prop := G Γ yL_law cL_law 7 (some .boolean) (1312, 601024, 7293034) pc [some (.ref b), some (.ref x), some (.ref yy), some (.ref o), some (.int i), none, none] [] h cs l_q
section GLAW
variable {Γ : GX} {y : MethodName} {cc : ByteArray} {nL : Nat} {rt : Option FieldType} {rb : GR} {pc : Nat} {lv : List (Option Value)} {st : List Value} {h : PH} {cs cs' : Nat × Nat} {Ω : List Frame → Array Value → State → State → Prop}
theorem G.wid (h1 : cs.1 ≤ cs'.1) (h2 : cs.2 ≤ cs'.2) (k : GZ Γ Ω y cc nL rt rb pc lv st h cs') : GZ Γ Ω y cc nL rt rb pc lv st h cs :=
  fun p e s m args below meth c C ls H locs hl hH hS => W.widen h1 h2 (k p e s m args below meth c C ls H locs hl hH hS)
theorem G_sld {b L : Nat} {xs : Nat → Int32} {i : Int32} (hX : va_X b L xs Γ.2.1 Γ.2.1.heap) (hbl : b < Γ.2.1.heap.size) (hin : inb i L) (hd : decode cc pc = .ok (.iaload, 1)) (kk : GZ Γ Ω y cc nL rt rb (pc + 1) lv (.int (xs (ix i)) :: st) h cs) : GZ Γ Ω y cc nL rt rb pc lv (.int i :: .ref b :: st) h cs := by
  intro p e s m args below meth c C ls H locs hl hH hS
  have hA : ¬ g_A Γ b := Nat.not_le.mpr hbl
  exact va_sld C.1 C.2.1 ((hX.kept (g_old C b hbl hA)).moved (g_alk C)) (Nat.lt_of_lt_of_le hbl C.2.2.2.2.2.2.2.2.2.2.2) hA hS hin hd (kk p e s m args below meth c C ls H locs hl hH hS)
theorem G_slen0 {b L : Nat} {xs : Nat → Int32} (hX : va_X b L xs Γ.2.1 Γ.2.1.heap) (hbl : b < Γ.2.1.heap.size) (hd : decode cc pc = .ok (.arraylength, 1)) (kk : GZ Γ Ω y cc nL rt rb (pc + 1) lv (.int (Int32.ofNat L) :: st) h cs) : GZ Γ Ω y cc nL rt rb pc lv (.ref b :: st) h cs := by
  intro p e s m args below meth c C ls H locs hl hH hS
  have hA : ¬ g_A Γ b := Nat.not_le.mpr hbl
  exact va_slen C.1 C.2.1 ((hX.kept (g_old C b hbl hA)).moved (g_alk C)) (Nat.lt_of_lt_of_le hbl C.2.2.2.2.2.2.2.2.2.2.2) hA hS hd (kk p e s m args below meth c C ls H locs hl hH hS)
end GLAW
def D_feed (Inv Inv' : PH → Prop) (N x yy : Nat) : Prop := ∀ (a0 : Int64) (a1 : Int64) (a2 : Int64) (h : PH), Inv h → wp (f_X10_feed N x a0 a1 a2 h) (fun r h1 => hK h1 yy = 10 ∧ wp (f_X11_feed N yy a0 a1 a2 h1) (fun r2 h2 => r = r2 ∧ Inv' h2))
def D_valley (Inv Inv' : PH → Prop) (N x yy : Nat) : Prop := ∀ (h : PH), Inv h → wp (f_X10_valley N x  h) (fun r h1 => hK h1 yy = 10 ∧ wp (f_X11_valley N yy  h1) (fun r2 h2 => r = r2 ∧ Inv' h2))
def D_day (Inv Inv' : PH → Prop) (N x yy : Nat) : Prop := ∀ (h : PH), Inv h → wp (f_X10_day N x  h) (fun r h1 => hK h1 yy = 10 ∧ wp (f_X11_day N yy  h1) (fun r2 h2 => r = r2 ∧ Inv' h2))
def D_house (Inv Inv' : PH → Prop) (N x yy : Nat) : Prop := ∀ (a0 : Int32) (a1 : Int32) (h : PH), Inv h → wp (f_X10_house N x a0 a1 h) (fun r h1 => hK h1 yy = 10 ∧ wp (f_X11_house N yy a0 a1 h1) (fun r2 h2 => r = r2 ∧ Inv' h2))
def D_flue (Inv Inv' : PH → Prop) (N x yy : Nat) : Prop := ∀ (a0 : Int32) (a1 : Int32) (h : PH), Inv h → wp (f_X10_flue N x a0 a1 h) (fun r h1 => hK h1 yy = 10 ∧ wp (f_X11_flue N yy a0 a1 h1) (fun r2 h2 => r = r2 ∧ Inv' h2))
def D_burn (Inv Inv' : PH → Prop) (N x yy : Nat) : Prop := ∀ (a0 : Int32) (a1 : Int32) (h : PH), Inv h → wp (f_X10_burn N x a0 a1 h) (fun r h1 => hK h1 yy = 10 ∧ wp (f_X11_burn N yy a0 a1 h1) (fun r2 h2 => r = r2 ∧ Inv' h2))
def D_lend (Inv Inv' : PH → Prop) (N x yy : Nat) : Prop := ∀ (a0 : Int32) (a1 : Int32) (a2 : Int32) (a3 : Int32) (h : PH), Inv h → wp (f_X10_lend N x a0 a1 a2 a3 h) (fun r h1 => hK h1 yy = 10 ∧ wp (f_X11_lend N yy a0 a1 a2 a3 h1) (fun r2 h2 => r = r2 ∧ Inv' h2))
def D_hour (Inv Inv' : PH → Prop) (N x yy : Nat) : Prop := ∀ (h : PH), Inv h → wp (f_X10_hour N x  h) (fun r h1 => hK h1 yy = 10 ∧ wp (f_X11_hour N yy  h1) (fun r2 h2 => r = r2 ∧ Inv' h2))
def D_undo (Inv Inv' : PH → Prop) (N x yy : Nat) : Prop := ∀ (h : PH), Inv h → wp (f_X10_undo N x  h) (fun r h1 => hK h1 yy = 10 ∧ wp (f_X11_undo N yy  h1) (fun r2 h2 => r = r2 ∧ Inv' h2))
def D_judged (Inv Inv' : PH → Prop) (N x yy : Nat) : Prop := ∀ (a0 : Int32) (h : PH), Inv h → wp (f_X10_judged N x a0 h) (fun r h1 => hK h1 yy = 10 ∧ wp (f_X11_judged N yy a0 h1) (fun r2 h2 => r = r2 ∧ Inv' h2))
def D_spell (Inv Inv' : PH → Prop) (N x yy : Nat) : Prop := ∀ (a0 : Int32) (a1 : Int32) (a2 : Int32) (a3 : Int32) (h : PH), Inv h → wp (f_X10_spell N x a0 a1 a2 a3 h) (fun r h1 => hK h1 yy = 10 ∧ wp (f_X11_spell N yy a0 a1 a2 a3 h1) (fun r2 h2 => r = r2 ∧ Inv' h2))
def D_sure (Inv Inv' : PH → Prop) (N x yy : Nat) : Prop := ∀ (a0 : Int32) (a1 : Int32) (h : PH), Inv h → wp (f_X10_sure N x a0 a1 h) (fun r h1 => hK h1 yy = 10 ∧ wp (f_X11_sure N yy a0 a1 h1) (fun r2 h2 => r = r2 ∧ Inv' h2))
def D_hope (Inv Inv' : PH → Prop) (N x yy : Nat) : Prop := ∀ (a0 : Int32) (a1 : Int32) (a2 : Int32) (h : PH), Inv h → wp (f_X10_hope N x a0 a1 a2 h) (fun r h1 => hK h1 yy = 10 ∧ wp (f_X11_hope N yy a0 a1 a2 h1) (fun r2 h2 => r = r2 ∧ Inv' h2))
def D_read (Inv Inv' : PH → Prop) (N x yy : Nat) : Prop := ∀ (a0 : Int32) (a1 : Int32) (a2 : Int32) (h : PH), Inv h → wp (f_X10_read N x a0 a1 a2 h) (fun r h1 => hK h1 yy = 10 ∧ wp (f_X11_read N yy a0 a1 a2 h1) (fun r2 h2 => r = r2 ∧ Inv' h2))
def D_ways (Inv Inv' : PH → Prop) (N x yy : Nat) : Prop := ∀ (a0 : Int32) (h : PH), Inv h → wp (f_X10_ways N x a0 h) (fun r h1 => hK h1 yy = 10 ∧ wp (f_X11_ways N yy a0 h1) (fun r2 h2 => r = r2 ∧ Inv' h2))
def D_ask (Inv Inv' : PH → Prop) (N x yy : Nat) : Prop := ∀ (h : PH), Inv h → wp (f_X10_ask N x  h) (fun r h1 => hK h1 yy = 10 ∧ wp (f_X11_ask N yy  h1) (fun r2 h2 => r = r2 ∧ Inv' h2))
def D_blur (Inv Inv' : PH → Prop) (N x yy : Nat) : Prop := ∀ (a0 : Int32) (a1 : Int32) (h : PH), Inv h → wp (f_X10_blur N x a0 a1 h) (fun r h1 => hK h1 yy = 10 ∧ wp (f_X11_blur N yy a0 a1 h1) (fun r2 h2 => r = r2 ∧ Inv' h2))
def D_share (Inv Inv' : PH → Prop) (N x yy : Nat) : Prop := ∀ (a0 : Int32) (h : PH), Inv h → wp (f_X10_share N x a0 h) (fun r h1 => hK h1 yy = 10 ∧ wp (f_X11_share N yy a0 h1) (fun r2 h2 => r = r2 ∧ Inv' h2))
def D_given (Inv Inv' : PH → Prop) (N x yy : Nat) : Prop := ∀ (a0 : Int32) (a1 : Int32) (h : PH), Inv h → wp (f_X10_given N x a0 a1 h) (fun r h1 => hK h1 yy = 10 ∧ wp (f_X11_given N yy a0 a1 h1) (fun r2 h2 => r = r2 ∧ Inv' h2))
def D_years (Inv Inv' : PH → Prop) (N x yy : Nat) : Prop := ∀ (a0 : Int32) (a1 : Int32) (a2 : Int32) (h : PH), Inv h → wp (f_X10_years N x a0 a1 a2 h) (fun r h1 => hK h1 yy = 10 ∧ wp (f_X11_years N yy a0 a1 a2 h1) (fun r2 h2 => r = r2 ∧ Inv' h2))
def D_mark (Inv Inv' : PH → Prop) (N x yy : Nat) : Prop := ∀ (a0 : Int32) (a1 : Int32) (_ : a1 = 0 ∨ a1 = 1) (h : PH), Inv h → wp (f_X10_mark N x a0 a1 h) (fun r h1 => hK h1 yy = 10 ∧ wp (f_X11_mark N yy a0 a1 h1) (fun r2 h2 => r = r2 ∧ Inv' h2))
def D_count (Inv Inv' : PH → Prop) (N x yy : Nat) : Prop := ∀ (a0 : Int32) (h : PH), Inv h → wp (f_X10_count N x a0 h) (fun r h1 => hK h1 yy = 10 ∧ wp (f_X11_count N yy a0 h1) (fun r2 h2 => r = r2 ∧ Inv' h2))
set_option maxHeartbeats 4000000 in
set_option maxRecDepth 100000 in
theorem lc_feed {Γ : GX} (hs : SF Γ) {N x yy o b L : Nat} {xs : Nat → Int32} {Inv Inv' : PH → Prop} (hX : va_X b L xs Γ.2.1 Γ.2.1.heap) (hbl : b < Γ.2.1.heap.size) (hIK : ∀ h, Inv h → hK h x = 9 ∧ hK h yy = 10) (hP : D_feed Inv Inv' N x yy) {i : Int32} (hi1 : inb (i + (1 : Int32)) L) (hi2 : inb (i + (2 : Int32)) L) (hi3 : inb (i + (3 : Int32)) L) (hi4 : inb (i + (4 : Int32)) L) (hi5 : inb (i + (5 : Int32)) L) (hi6 : inb (i + (6 : Int32)) L) {cn sn : Nat} (hcn : cn + 2 ≤ 601024) (hsn : sn + 12 ≤ 7293034) {h : PH} (hInv : Inv h) (hk : ∀ h2, Inv' h2 → LG Γ 1122 b x yy o i h2 (cn + 2, sn + 12)) : LG Γ 148 b x yy o i h (cn, sn) := by
  refine G.cse (cs' := (cn + 0, sn + 0)) rfl ?_
  refine G_aload_n dL_law_148 rfl ?_
  refine G_aload_n dL_law_149 rfl ?_
  refine G_iload dL_law_150 rfl ?_
  refine G_iconst (v := (1 : Int32)) dL_law_152 (by decide) ?_
  refine G_iadd dL_law_153 ?_
  refine G_sld hX hbl hi1 dL_law_154 ?_
  refine G_i2l dL_law_155 ?_
  refine G_bipush (v := (32 : Int32)) dL_law_156 (by decide) ?_
  refine G_lshl dL_law_158 ?_
  refine G_aload_n dL_law_159 rfl ?_
  refine G_iload dL_law_160 rfl ?_
  refine G_iconst (v := (2 : Int32)) dL_law_162 (by decide) ?_
  refine G_iadd dL_law_163 ?_
  refine G_sld hX hbl hi2 dL_law_164 ?_
  refine G_i2l dL_law_165 ?_
  refine G_ldc2 (v := (4294967295 : Int64)) dL_law_166 w_2079 ?_
  refine G_land dL_law_169 ?_
  refine G_lor dL_law_170 ?_
  refine G_aload_n dL_law_171 rfl ?_
  refine G_iload dL_law_172 rfl ?_
  refine G_iconst (v := (3 : Int32)) dL_law_174 (by decide) ?_
  refine G_iadd dL_law_175 ?_
  refine G_sld hX hbl hi3 dL_law_176 ?_
  refine G_i2l dL_law_177 ?_
  refine G_bipush (v := (32 : Int32)) dL_law_178 (by decide) ?_
  refine G_lshl dL_law_180 ?_
  refine G_aload_n dL_law_181 rfl ?_
  refine G_iload dL_law_182 rfl ?_
  refine G_iconst (v := (4 : Int32)) dL_law_184 (by decide) ?_
  refine G_iadd dL_law_185 ?_
  refine G_sld hX hbl hi4 dL_law_186 ?_
  refine G_i2l dL_law_187 ?_
  refine G_ldc2 (v := (4294967295 : Int64)) dL_law_188 w_2079 ?_
  refine G_land dL_law_191 ?_
  refine G_lor dL_law_192 ?_
  refine G_aload_n dL_law_193 rfl ?_
  refine G_iload dL_law_194 rfl ?_
  refine G_iconst (v := (5 : Int32)) dL_law_196 (by decide) ?_
  refine G_iadd dL_law_197 ?_
  refine G_sld hX hbl hi5 dL_law_198 ?_
  refine G_i2l dL_law_199 ?_
  refine G_bipush (v := (32 : Int32)) dL_law_200 (by decide) ?_
  refine G_lshl dL_law_202 ?_
  refine G_aload_n dL_law_203 rfl ?_
  refine G_iload dL_law_204 rfl ?_
  refine G_bipush (v := (6 : Int32)) dL_law_206 (by decide) ?_
  refine G_iadd dL_law_208 ?_
  refine G_sld hX hbl hi6 dL_law_209 ?_
  refine G_i2l dL_law_210 ?_
  refine G_ldc2 (v := (4294967295 : Int64)) dL_law_211 w_2079 ?_
  refine G_land dL_law_214 ?_
  refine G_lor dL_law_215 ?_
  have hw := hP ((((xs (ix (i + (1 : Int32)))).toInt64) <<< ((32 : Int32).toInt64 &&& 63)) ||| (((xs (ix (i + (2 : Int32)))).toInt64) &&& (4294967295 : Int64))) ((((xs (ix (i + (3 : Int32)))).toInt64) <<< ((32 : Int32).toInt64 &&& 63)) ||| (((xs (ix (i + (4 : Int32)))).toInt64) &&& (4294967295 : Int64))) ((((xs (ix (i + (5 : Int32)))).toInt64) <<< ((32 : Int32).toInt64 &&& 63)) ||| (((xs (ix (i + (6 : Int32)))).toInt64) &&& (4294967295 : Int64))) h hInv
  refine G_callV (As := [.long ((((xs (ix (i + (1 : Int32)))).toInt64) <<< ((32 : Int32).toInt64 &&& 63)) ||| (((xs (ix (i + (2 : Int32)))).toInt64) &&& (4294967295 : Int64))), .long ((((xs (ix (i + (3 : Int32)))).toInt64) <<< ((32 : Int32).toInt64 &&& 63)) ||| (((xs (ix (i + (4 : Int32)))).toInt64) &&& (4294967295 : Int64))), .long ((((xs (ix (i + (5 : Int32)))).toInt64) <<< ((32 : Int32).toInt64 &&& 63)) ||| (((xs (ix (i + (6 : Int32)))).toInt64) &&& (4294967295 : Int64)))]) (rb2 := (2, 0, 0)) (s_X10_feed hs x ((((xs (ix (i + (1 : Int32)))).toInt64) <<< ((32 : Int32).toInt64 &&& 63)) ||| (((xs (ix (i + (2 : Int32)))).toInt64) &&& (4294967295 : Int64))) ((((xs (ix (i + (3 : Int32)))).toInt64) <<< ((32 : Int32).toInt64 &&& 63)) ||| (((xs (ix (i + (4 : Int32)))).toInt64) &&& (4294967295 : Int64))) ((((xs (ix (i + (5 : Int32)))).toInt64) <<< ((32 : Int32).toInt64 &&& 63)) ||| (((xs (ix (i + (6 : Int32)))).toInt64) &&& (4294967295 : Int64))) h _ hw) ca_X10_feed w_544 w_545 (ci := 9) rfl (by decide) w_543 (hIK h hInv).1 (Nat.le_of_ble_eq_true rfl) (Nat.le_of_ble_eq_true rfl) rfl (Nat.le_of_ble_eq_true rfl) (by show _ + _ ≤ 601024; simp only []; omega) (by show _ + _ ≤ 7293034; simp only []; omega) dL_law_216 rfl (fun v h1 hq => ?_)
  obtain ⟨r2, rfl, hw⟩ := hq
  obtain ⟨hy, hw⟩ := hw
  refine G.cse (cs' := (cn + 0, sn + 0)) rfl ?_
  show GZ _ _ _ _ _ _ _ 219 _ [.int r2] _ _
  refine G_aload_n dL_law_219 rfl ?_
  refine G_aload_n dL_law_220 rfl ?_
  refine G_iload dL_law_221 rfl ?_
  refine G_iconst (v := (1 : Int32)) dL_law_223 (by decide) ?_
  refine G_iadd dL_law_224 ?_
  refine G_sld hX hbl hi1 dL_law_225 ?_
  refine G_i2l dL_law_226 ?_
  refine G_bipush (v := (32 : Int32)) dL_law_227 (by decide) ?_
  refine G_lshl dL_law_229 ?_
  refine G_aload_n dL_law_230 rfl ?_
  refine G_iload dL_law_231 rfl ?_
  refine G_iconst (v := (2 : Int32)) dL_law_233 (by decide) ?_
  refine G_iadd dL_law_234 ?_
  refine G_sld hX hbl hi2 dL_law_235 ?_
  refine G_i2l dL_law_236 ?_
  refine G_ldc2 (v := (4294967295 : Int64)) dL_law_237 w_2079 ?_
  refine G_land dL_law_240 ?_
  refine G_lor dL_law_241 ?_
  refine G_aload_n dL_law_242 rfl ?_
  refine G_iload dL_law_243 rfl ?_
  refine G_iconst (v := (3 : Int32)) dL_law_245 (by decide) ?_
  refine G_iadd dL_law_246 ?_
  refine G_sld hX hbl hi3 dL_law_247 ?_
  refine G_i2l dL_law_248 ?_
  refine G_bipush (v := (32 : Int32)) dL_law_249 (by decide) ?_
  refine G_lshl dL_law_251 ?_
  refine G_aload_n dL_law_252 rfl ?_
  refine G_iload dL_law_253 rfl ?_
  refine G_iconst (v := (4 : Int32)) dL_law_255 (by decide) ?_
  refine G_iadd dL_law_256 ?_
  refine G_sld hX hbl hi4 dL_law_257 ?_
  refine G_i2l dL_law_258 ?_
  refine G_ldc2 (v := (4294967295 : Int64)) dL_law_259 w_2079 ?_
  refine G_land dL_law_262 ?_
  refine G_lor dL_law_263 ?_
  refine G_aload_n dL_law_264 rfl ?_
  refine G_iload dL_law_265 rfl ?_
  refine G_iconst (v := (5 : Int32)) dL_law_267 (by decide) ?_
  refine G_iadd dL_law_268 ?_
  refine G_sld hX hbl hi5 dL_law_269 ?_
  refine G_i2l dL_law_270 ?_
  refine G_bipush (v := (32 : Int32)) dL_law_271 (by decide) ?_
  refine G_lshl dL_law_273 ?_
  refine G_aload_n dL_law_274 rfl ?_
  refine G_iload dL_law_275 rfl ?_
  refine G_bipush (v := (6 : Int32)) dL_law_277 (by decide) ?_
  refine G_iadd dL_law_279 ?_
  refine G_sld hX hbl hi6 dL_law_280 ?_
  refine G_i2l dL_law_281 ?_
  refine G_ldc2 (v := (4294967295 : Int64)) dL_law_282 w_2079 ?_
  refine G_land dL_law_285 ?_
  refine G_lor dL_law_286 ?_
  refine G_callV (As := [.long ((((xs (ix (i + (1 : Int32)))).toInt64) <<< ((32 : Int32).toInt64 &&& 63)) ||| (((xs (ix (i + (2 : Int32)))).toInt64) &&& (4294967295 : Int64))), .long ((((xs (ix (i + (3 : Int32)))).toInt64) <<< ((32 : Int32).toInt64 &&& 63)) ||| (((xs (ix (i + (4 : Int32)))).toInt64) &&& (4294967295 : Int64))), .long ((((xs (ix (i + (5 : Int32)))).toInt64) <<< ((32 : Int32).toInt64 &&& 63)) ||| (((xs (ix (i + (6 : Int32)))).toInt64) &&& (4294967295 : Int64)))]) (rb2 := (1, 0, 0)) (s_X11_feed hs yy ((((xs (ix (i + (1 : Int32)))).toInt64) <<< ((32 : Int32).toInt64 &&& 63)) ||| (((xs (ix (i + (2 : Int32)))).toInt64) &&& (4294967295 : Int64))) ((((xs (ix (i + (3 : Int32)))).toInt64) <<< ((32 : Int32).toInt64 &&& 63)) ||| (((xs (ix (i + (4 : Int32)))).toInt64) &&& (4294967295 : Int64))) ((((xs (ix (i + (5 : Int32)))).toInt64) <<< ((32 : Int32).toInt64 &&& 63)) ||| (((xs (ix (i + (6 : Int32)))).toInt64) &&& (4294967295 : Int64))) h1 _ hw) ca_X11_feed w_1598 w_1599 (ci := 10) rfl (by decide) w_1597 hy (Nat.le_of_ble_eq_true rfl) (Nat.le_of_ble_eq_true rfl) rfl (Nat.le_of_ble_eq_true rfl) (by show _ + _ ≤ 601024; simp only []; omega) (by show _ + _ ≤ 7293034; simp only []; omega) dL_law_287 rfl (fun v h3 hq => ?_)
  obtain ⟨r4, rfl, hw⟩ := hq
  obtain ⟨rfl, hInv⟩ := hw
  refine G.cse (cs' := (cn + 0, sn + 0)) rfl ?_
  show GZ _ _ _ _ _ _ _ 290 _ [.int r2, .int r2] _ _
  refine G_icmp_eq (tgt := 1122) dL_law_290 rfl (fun _ => ?_) (fun q => absurd rfl q)
  refine G.less [some (.ref b), some (.ref x), some (.ref yy), some (.ref o), some (.int i), none, none] ⟨rfl, ⟨rfl, ⟨rfl, ⟨rfl, ⟨rfl, trivial⟩⟩⟩⟩⟩ ?_
  refine G.wid (cs' := (cn + 2, sn + 12)) (by simp only []; omega) (by simp only []; omega) ?_
  exact hk h3 hInv
set_option maxHeartbeats 4000000 in
set_option maxRecDepth 100000 in
theorem lc_valley {Γ : GX} (hs : SF Γ) {N x yy o b L : Nat} {xs : Nat → Int32} {Inv Inv' : PH → Prop} (hX : va_X b L xs Γ.2.1 Γ.2.1.heap) (hbl : b < Γ.2.1.heap.size) (hIK : ∀ h, Inv h → hK h x = 9 ∧ hK h yy = 10) (hP : D_valley Inv Inv' N x yy) {i : Int32} (hi1 : inb (i + (1 : Int32)) L) (hi2 : inb (i + (2 : Int32)) L) (hi3 : inb (i + (3 : Int32)) L) (hi4 : inb (i + (4 : Int32)) L) (hi5 : inb (i + (5 : Int32)) L) (hi6 : inb (i + (6 : Int32)) L) {cn sn : Nat} (hcn : cn + 2 ≤ 601024) (hsn : sn + 12 ≤ 7293034) {h : PH} (hInv : Inv h) (hk : ∀ h2, Inv' h2 → LG Γ 1122 b x yy o i h2 (cn + 2, sn + 12)) : LG Γ 295 b x yy o i h (cn, sn) := by
  refine G.cse (cs' := (cn + 0, sn + 0)) rfl ?_
  refine G_aload_n dL_law_295 rfl ?_
  have hw := hP  h hInv
  refine G_callV (As := []) (rb2 := (50, 1, 2)) (s_X10_valley hs x  h _ hw) ca_X10_valley w_552 w_553 (ci := 9) rfl (by decide) w_551 (hIK h hInv).1 (Nat.le_of_ble_eq_true rfl) (Nat.le_of_ble_eq_true rfl) rfl (Nat.le_of_ble_eq_true rfl) (by show _ + _ ≤ 601024; simp only []; omega) (by show _ + _ ≤ 7293034; simp only []; omega) dL_law_296 rfl (fun v h1 hq => ?_)
  obtain ⟨r2, rfl, hw⟩ := hq
  obtain ⟨hy, hw⟩ := hw
  refine G.cse (cs' := (cn + 1, sn + 2)) rfl ?_
  show GZ _ _ _ _ _ _ _ 299 _ [.int r2] _ _
  refine G_aload_n dL_law_299 rfl ?_
  refine G_callV (As := []) (rb2 := (8, 0, 0)) (s_X11_valley hs yy  h1 _ hw) ca_X11_valley w_1603 w_1604 (ci := 10) rfl (by decide) w_1602 hy (Nat.le_of_ble_eq_true rfl) (Nat.le_of_ble_eq_true rfl) rfl (Nat.le_of_ble_eq_true rfl) (by show _ + _ ≤ 601024; simp only []; omega) (by show _ + _ ≤ 7293034; simp only []; omega) dL_law_300 rfl (fun v h3 hq => ?_)
  obtain ⟨r4, rfl, hw⟩ := hq
  obtain ⟨rfl, hInv⟩ := hw
  refine G.cse (cs' := (cn + 1, sn + 2)) rfl ?_
  show GZ _ _ _ _ _ _ _ 303 _ [.int r2, .int r2] _ _
  refine G_icmp_eq (tgt := 1122) dL_law_303 rfl (fun _ => ?_) (fun q => absurd rfl q)
  refine G.less [some (.ref b), some (.ref x), some (.ref yy), some (.ref o), some (.int i), none, none] ⟨rfl, ⟨rfl, ⟨rfl, ⟨rfl, ⟨rfl, trivial⟩⟩⟩⟩⟩ ?_
  refine G.wid (cs' := (cn + 2, sn + 12)) (by simp only []; omega) (by simp only []; omega) ?_
  exact hk h3 hInv
set_option maxHeartbeats 4000000 in
set_option maxRecDepth 100000 in
theorem lc_day {Γ : GX} (hs : SF Γ) {N x yy o b L : Nat} {xs : Nat → Int32} {Inv Inv' : PH → Prop} (hX : va_X b L xs Γ.2.1 Γ.2.1.heap) (hbl : b < Γ.2.1.heap.size) (hIK : ∀ h, Inv h → hK h x = 9 ∧ hK h yy = 10) (hP : D_day Inv Inv' N x yy) {i : Int32} (hi1 : inb (i + (1 : Int32)) L) (hi2 : inb (i + (2 : Int32)) L) (hi3 : inb (i + (3 : Int32)) L) (hi4 : inb (i + (4 : Int32)) L) (hi5 : inb (i + (5 : Int32)) L) (hi6 : inb (i + (6 : Int32)) L) {cn sn : Nat} (hcn : cn + 2 ≤ 601024) (hsn : sn + 12 ≤ 7293034) {h : PH} (hInv : Inv h) (hk : ∀ h2, Inv' h2 → LG Γ 1122 b x yy o i h2 (cn + 2, sn + 12)) : LG Γ 308 b x yy o i h (cn, sn) := by
  refine G.cse (cs' := (cn + 0, sn + 0)) rfl ?_
  refine G_aload_n dL_law_308 rfl ?_
  have hw := hP  h hInv
  refine G_callV (As := []) (rb2 := (9, 0, 0)) (s_X10_day hs x  h _ hw) ca_X10_day w_916 w_917 (ci := 9) rfl (by decide) w_915 (hIK h hInv).1 (Nat.le_of_ble_eq_true rfl) (Nat.le_of_ble_eq_true rfl) rfl (Nat.le_of_ble_eq_true rfl) (by show _ + _ ≤ 601024; simp only []; omega) (by show _ + _ ≤ 7293034; simp only []; omega) dL_law_309 rfl (fun v h1 hq => ?_)
  obtain ⟨r2, rfl, hw⟩ := hq
  obtain ⟨hy, hw⟩ := hw
  refine G.cse (cs' := (cn + 0, sn + 0)) rfl ?_
  show GZ _ _ _ _ _ _ _ 312 _ [.int r2] _ _
  refine G_aload_n dL_law_312 rfl ?_
  refine G_callV (As := []) (rb2 := (6, 0, 0)) (s_X11_day hs yy  h1 _ hw) ca_X11_day w_1761 w_1762 (ci := 10) rfl (by decide) w_1760 hy (Nat.le_of_ble_eq_true rfl) (Nat.le_of_ble_eq_true rfl) rfl (Nat.le_of_ble_eq_true rfl) (by show _ + _ ≤ 601024; simp only []; omega) (by show _ + _ ≤ 7293034; simp only []; omega) dL_law_313 rfl (fun v h3 hq => ?_)
  obtain ⟨r4, rfl, hw⟩ := hq
  obtain ⟨rfl, hInv⟩ := hw
  refine G.cse (cs' := (cn + 0, sn + 0)) rfl ?_
  show GZ _ _ _ _ _ _ _ 316 _ [.int r2, .int r2] _ _
  refine G_icmp_eq (tgt := 1122) dL_law_316 rfl (fun _ => ?_) (fun q => absurd rfl q)
  refine G.less [some (.ref b), some (.ref x), some (.ref yy), some (.ref o), some (.int i), none, none] ⟨rfl, ⟨rfl, ⟨rfl, ⟨rfl, ⟨rfl, trivial⟩⟩⟩⟩⟩ ?_
  refine G.wid (cs' := (cn + 2, sn + 12)) (by simp only []; omega) (by simp only []; omega) ?_
  exact hk h3 hInv
set_option maxHeartbeats 4000000 in
set_option maxRecDepth 100000 in
theorem lc_house {Γ : GX} (hs : SF Γ) {N x yy o b L : Nat} {xs : Nat → Int32} {Inv Inv' : PH → Prop} (hX : va_X b L xs Γ.2.1 Γ.2.1.heap) (hbl : b < Γ.2.1.heap.size) (hIK : ∀ h, Inv h → hK h x = 9 ∧ hK h yy = 10) (hP : D_house Inv Inv' N x yy) {i : Int32} (hi1 : inb (i + (1 : Int32)) L) (hi2 : inb (i + (2 : Int32)) L) (hi3 : inb (i + (3 : Int32)) L) (hi4 : inb (i + (4 : Int32)) L) (hi5 : inb (i + (5 : Int32)) L) (hi6 : inb (i + (6 : Int32)) L) {cn sn : Nat} (hcn : cn + 2 ≤ 601024) (hsn : sn + 12 ≤ 7293034) {h : PH} (hInv : Inv h) (hk : ∀ h2, Inv' h2 → LG Γ 1122 b x yy o i h2 (cn + 2, sn + 12)) : LG Γ 321 b x yy o i h (cn, sn) := by
  refine G.cse (cs' := (cn + 0, sn + 0)) rfl ?_
  refine G_aload_n dL_law_321 rfl ?_
  refine G_aload_n dL_law_322 rfl ?_
  refine G_iload dL_law_323 rfl ?_
  refine G_iconst (v := (1 : Int32)) dL_law_325 (by decide) ?_
  refine G_iadd dL_law_326 ?_
  refine G_sld hX hbl hi1 dL_law_327 ?_
  refine G_aload_n dL_law_328 rfl ?_
  refine G_iload dL_law_329 rfl ?_
  refine G_iconst (v := (2 : Int32)) dL_law_331 (by decide) ?_
  refine G_iadd dL_law_332 ?_
  refine G_sld hX hbl hi2 dL_law_333 ?_
  have hw := hP (xs (ix (i + (1 : Int32)))) (xs (ix (i + (2 : Int32)))) h hInv
  refine G_callV (As := [.int (xs (ix (i + (1 : Int32)))), .int (xs (ix (i + (2 : Int32))))]) (rb2 := (2, 0, 0)) (s_X10_house hs x (xs (ix (i + (1 : Int32)))) (xs (ix (i + (2 : Int32)))) h _ hw) ca_X10_house w_951 w_952 (ci := 9) rfl (by decide) w_950 (hIK h hInv).1 (Nat.le_of_ble_eq_true rfl) (Nat.le_of_ble_eq_true rfl) rfl (Nat.le_of_ble_eq_true rfl) (by show _ + _ ≤ 601024; simp only []; omega) (by show _ + _ ≤ 7293034; simp only []; omega) dL_law_334 rfl (fun v h1 hq => ?_)
  obtain ⟨r2, rfl, hw⟩ := hq
  obtain ⟨hy, hw⟩ := hw
  refine G.cse (cs' := (cn + 0, sn + 0)) rfl ?_
  show GZ _ _ _ _ _ _ _ 337 _ [.int r2] _ _
  refine G_aload_n dL_law_337 rfl ?_
  refine G_aload_n dL_law_338 rfl ?_
  refine G_iload dL_law_339 rfl ?_
  refine G_iconst (v := (1 : Int32)) dL_law_341 (by decide) ?_
  refine G_iadd dL_law_342 ?_
  refine G_sld hX hbl hi1 dL_law_343 ?_
  refine G_aload_n dL_law_344 rfl ?_
  refine G_iload dL_law_345 rfl ?_
  refine G_iconst (v := (2 : Int32)) dL_law_347 (by decide) ?_
  refine G_iadd dL_law_348 ?_
  refine G_sld hX hbl hi2 dL_law_349 ?_
  refine G_callV (As := [.int (xs (ix (i + (1 : Int32)))), .int (xs (ix (i + (2 : Int32))))]) (rb2 := (2, 0, 0)) (s_X11_house hs yy (xs (ix (i + (1 : Int32)))) (xs (ix (i + (2 : Int32)))) h1 _ hw) ca_X11_house w_1781 w_1782 (ci := 10) rfl (by decide) w_1780 hy (Nat.le_of_ble_eq_true rfl) (Nat.le_of_ble_eq_true rfl) rfl (Nat.le_of_ble_eq_true rfl) (by show _ + _ ≤ 601024; simp only []; omega) (by show _ + _ ≤ 7293034; simp only []; omega) dL_law_350 rfl (fun v h3 hq => ?_)
  obtain ⟨r4, rfl, hw⟩ := hq
  obtain ⟨rfl, hInv⟩ := hw
  refine G.cse (cs' := (cn + 0, sn + 0)) rfl ?_
  show GZ _ _ _ _ _ _ _ 353 _ [.int r2, .int r2] _ _
  refine G_icmp_eq (tgt := 1122) dL_law_353 rfl (fun _ => ?_) (fun q => absurd rfl q)
  refine G.less [some (.ref b), some (.ref x), some (.ref yy), some (.ref o), some (.int i), none, none] ⟨rfl, ⟨rfl, ⟨rfl, ⟨rfl, ⟨rfl, trivial⟩⟩⟩⟩⟩ ?_
  refine G.wid (cs' := (cn + 2, sn + 12)) (by simp only []; omega) (by simp only []; omega) ?_
  exact hk h3 hInv
set_option maxHeartbeats 4000000 in
set_option maxRecDepth 100000 in
theorem lc_flue {Γ : GX} (hs : SF Γ) {N x yy o b L : Nat} {xs : Nat → Int32} {Inv Inv' : PH → Prop} (hX : va_X b L xs Γ.2.1 Γ.2.1.heap) (hbl : b < Γ.2.1.heap.size) (hIK : ∀ h, Inv h → hK h x = 9 ∧ hK h yy = 10) (hP : D_flue Inv Inv' N x yy) {i : Int32} (hi1 : inb (i + (1 : Int32)) L) (hi2 : inb (i + (2 : Int32)) L) (hi3 : inb (i + (3 : Int32)) L) (hi4 : inb (i + (4 : Int32)) L) (hi5 : inb (i + (5 : Int32)) L) (hi6 : inb (i + (6 : Int32)) L) {cn sn : Nat} (hcn : cn + 2 ≤ 601024) (hsn : sn + 12 ≤ 7293034) {h : PH} (hInv : Inv h) (hk : ∀ h2, Inv' h2 → LG Γ 1122 b x yy o i h2 (cn + 2, sn + 12)) : LG Γ 358 b x yy o i h (cn, sn) := by
  refine G.cse (cs' := (cn + 0, sn + 0)) rfl ?_
  refine G_aload_n dL_law_358 rfl ?_
  refine G_aload_n dL_law_359 rfl ?_
  refine G_iload dL_law_360 rfl ?_
  refine G_iconst (v := (1 : Int32)) dL_law_362 (by decide) ?_
  refine G_iadd dL_law_363 ?_
  refine G_sld hX hbl hi1 dL_law_364 ?_
  refine G_aload_n dL_law_365 rfl ?_
  refine G_iload dL_law_366 rfl ?_
  refine G_iconst (v := (2 : Int32)) dL_law_368 (by decide) ?_
  refine G_iadd dL_law_369 ?_
  refine G_sld hX hbl hi2 dL_law_370 ?_
  have hw := hP (xs (ix (i + (1 : Int32)))) (xs (ix (i + (2 : Int32)))) h hInv
  refine G_callV (As := [.int (xs (ix (i + (1 : Int32)))), .int (xs (ix (i + (2 : Int32))))]) (rb2 := (6, 0, 0)) (s_X10_flue hs x (xs (ix (i + (1 : Int32)))) (xs (ix (i + (2 : Int32)))) h _ hw) ca_X10_flue w_963 w_964 (ci := 9) rfl (by decide) w_962 (hIK h hInv).1 (Nat.le_of_ble_eq_true rfl) (Nat.le_of_ble_eq_true rfl) rfl (Nat.le_of_ble_eq_true rfl) (by show _ + _ ≤ 601024; simp only []; omega) (by show _ + _ ≤ 7293034; simp only []; omega) dL_law_371 rfl (fun v h1 hq => ?_)
  obtain ⟨r2, rfl, hw⟩ := hq
  obtain ⟨hy, hw⟩ := hw
  refine G.cse (cs' := (cn + 0, sn + 0)) rfl ?_
  show GZ _ _ _ _ _ _ _ 374 _ [.int r2] _ _
  refine G_aload_n dL_law_374 rfl ?_
  refine G_aload_n dL_law_375 rfl ?_
  refine G_iload dL_law_376 rfl ?_
  refine G_iconst (v := (1 : Int32)) dL_law_378 (by decide) ?_
  refine G_iadd dL_law_379 ?_
  refine G_sld hX hbl hi1 dL_law_380 ?_
  refine G_aload_n dL_law_381 rfl ?_
  refine G_iload dL_law_382 rfl ?_
  refine G_iconst (v := (2 : Int32)) dL_law_384 (by decide) ?_
  refine G_iadd dL_law_385 ?_
  refine G_sld hX hbl hi2 dL_law_386 ?_
  refine G_callV (As := [.int (xs (ix (i + (1 : Int32)))), .int (xs (ix (i + (2 : Int32))))]) (rb2 := (7, 0, 0)) (s_X11_flue hs yy (xs (ix (i + (1 : Int32)))) (xs (ix (i + (2 : Int32)))) h1 _ hw) ca_X11_flue w_1789 w_1790 (ci := 10) rfl (by decide) w_1788 hy (Nat.le_of_ble_eq_true rfl) (Nat.le_of_ble_eq_true rfl) rfl (Nat.le_of_ble_eq_true rfl) (by show _ + _ ≤ 601024; simp only []; omega) (by show _ + _ ≤ 7293034; simp only []; omega) dL_law_387 rfl (fun v h3 hq => ?_)
  obtain ⟨r4, rfl, hw⟩ := hq
  obtain ⟨rfl, hInv⟩ := hw
  refine G.cse (cs' := (cn + 0, sn + 0)) rfl ?_
  show GZ _ _ _ _ _ _ _ 390 _ [.int r2, .int r2] _ _
  refine G_icmp_eq (tgt := 1122) dL_law_390 rfl (fun _ => ?_) (fun q => absurd rfl q)
  refine G.less [some (.ref b), some (.ref x), some (.ref yy), some (.ref o), some (.int i), none, none] ⟨rfl, ⟨rfl, ⟨rfl, ⟨rfl, ⟨rfl, trivial⟩⟩⟩⟩⟩ ?_
  refine G.wid (cs' := (cn + 2, sn + 12)) (by simp only []; omega) (by simp only []; omega) ?_
  exact hk h3 hInv
set_option maxHeartbeats 4000000 in
set_option maxRecDepth 100000 in
theorem lc_burn {Γ : GX} (hs : SF Γ) {N x yy o b L : Nat} {xs : Nat → Int32} {Inv Inv' : PH → Prop} (hX : va_X b L xs Γ.2.1 Γ.2.1.heap) (hbl : b < Γ.2.1.heap.size) (hIK : ∀ h, Inv h → hK h x = 9 ∧ hK h yy = 10) (hP : D_burn Inv Inv' N x yy) {i : Int32} (hi1 : inb (i + (1 : Int32)) L) (hi2 : inb (i + (2 : Int32)) L) (hi3 : inb (i + (3 : Int32)) L) (hi4 : inb (i + (4 : Int32)) L) (hi5 : inb (i + (5 : Int32)) L) (hi6 : inb (i + (6 : Int32)) L) {cn sn : Nat} (hcn : cn + 2 ≤ 601024) (hsn : sn + 12 ≤ 7293034) {h : PH} (hInv : Inv h) (hk : ∀ h2, Inv' h2 → LG Γ 1122 b x yy o i h2 (cn + 2, sn + 12)) : LG Γ 395 b x yy o i h (cn, sn) := by
  refine G.cse (cs' := (cn + 0, sn + 0)) rfl ?_
  refine G_aload_n dL_law_395 rfl ?_
  refine G_aload_n dL_law_396 rfl ?_
  refine G_iload dL_law_397 rfl ?_
  refine G_iconst (v := (1 : Int32)) dL_law_399 (by decide) ?_
  refine G_iadd dL_law_400 ?_
  refine G_sld hX hbl hi1 dL_law_401 ?_
  refine G_aload_n dL_law_402 rfl ?_
  refine G_iload dL_law_403 rfl ?_
  refine G_iconst (v := (2 : Int32)) dL_law_405 (by decide) ?_
  refine G_iadd dL_law_406 ?_
  refine G_sld hX hbl hi2 dL_law_407 ?_
  have hw := hP (xs (ix (i + (1 : Int32)))) (xs (ix (i + (2 : Int32)))) h hInv
  refine G_callV (As := [.int (xs (ix (i + (1 : Int32)))), .int (xs (ix (i + (2 : Int32))))]) (rb2 := (4, 0, 0)) (s_X10_burn hs x (xs (ix (i + (1 : Int32)))) (xs (ix (i + (2 : Int32)))) h _ hw) ca_X10_burn w_1012 w_1013 (ci := 9) rfl (by decide) w_1011 (hIK h hInv).1 (Nat.le_of_ble_eq_true rfl) (Nat.le_of_ble_eq_true rfl) rfl (Nat.le_of_ble_eq_true rfl) (by show _ + _ ≤ 601024; simp only []; omega) (by show _ + _ ≤ 7293034; simp only []; omega) dL_law_408 rfl (fun v h1 hq => ?_)
  obtain ⟨r2, rfl, hw⟩ := hq
  obtain ⟨hy, hw⟩ := hw
  refine G.cse (cs' := (cn + 0, sn + 0)) rfl ?_
  show GZ _ _ _ _ _ _ _ 411 _ [.int r2] _ _
  refine G_aload_n dL_law_411 rfl ?_
  refine G_aload_n dL_law_412 rfl ?_
  refine G_iload dL_law_413 rfl ?_
  refine G_iconst (v := (1 : Int32)) dL_law_415 (by decide) ?_
  refine G_iadd dL_law_416 ?_
  refine G_sld hX hbl hi1 dL_law_417 ?_
  refine G_aload_n dL_law_418 rfl ?_
  refine G_iload dL_law_419 rfl ?_
  refine G_iconst (v := (2 : Int32)) dL_law_421 (by decide) ?_
  refine G_iadd dL_law_422 ?_
  refine G_sld hX hbl hi2 dL_law_423 ?_
  refine G_callV (As := [.int (xs (ix (i + (1 : Int32)))), .int (xs (ix (i + (2 : Int32))))]) (rb2 := (3, 0, 0)) (s_X11_burn hs yy (xs (ix (i + (1 : Int32)))) (xs (ix (i + (2 : Int32)))) h1 _ hw) ca_X11_burn w_1845 w_1846 (ci := 10) rfl (by decide) w_1844 hy (Nat.le_of_ble_eq_true rfl) (Nat.le_of_ble_eq_true rfl) rfl (Nat.le_of_ble_eq_true rfl) (by show _ + _ ≤ 601024; simp only []; omega) (by show _ + _ ≤ 7293034; simp only []; omega) dL_law_424 rfl (fun v h3 hq => ?_)
  obtain ⟨r4, rfl, hw⟩ := hq
  obtain ⟨rfl, hInv⟩ := hw
  refine G.cse (cs' := (cn + 0, sn + 0)) rfl ?_
  show GZ _ _ _ _ _ _ _ 427 _ [.int r2, .int r2] _ _
  refine G_icmp_eq (tgt := 1122) dL_law_427 rfl (fun _ => ?_) (fun q => absurd rfl q)
  refine G.less [some (.ref b), some (.ref x), some (.ref yy), some (.ref o), some (.int i), none, none] ⟨rfl, ⟨rfl, ⟨rfl, ⟨rfl, ⟨rfl, trivial⟩⟩⟩⟩⟩ ?_
  refine G.wid (cs' := (cn + 2, sn + 12)) (by simp only []; omega) (by simp only []; omega) ?_
  exact hk h3 hInv
set_option maxHeartbeats 4000000 in
set_option maxRecDepth 100000 in
theorem lc_lend {Γ : GX} (hs : SF Γ) {N x yy o b L : Nat} {xs : Nat → Int32} {Inv Inv' : PH → Prop} (hX : va_X b L xs Γ.2.1 Γ.2.1.heap) (hbl : b < Γ.2.1.heap.size) (hIK : ∀ h, Inv h → hK h x = 9 ∧ hK h yy = 10) (hP : D_lend Inv Inv' N x yy) {i : Int32} (hi1 : inb (i + (1 : Int32)) L) (hi2 : inb (i + (2 : Int32)) L) (hi3 : inb (i + (3 : Int32)) L) (hi4 : inb (i + (4 : Int32)) L) (hi5 : inb (i + (5 : Int32)) L) (hi6 : inb (i + (6 : Int32)) L) {cn sn : Nat} (hcn : cn + 2 ≤ 601024) (hsn : sn + 12 ≤ 7293034) {h : PH} (hInv : Inv h) (hk : ∀ h2, Inv' h2 → LG Γ 1122 b x yy o i h2 (cn + 2, sn + 12)) : LG Γ 432 b x yy o i h (cn, sn) := by
  refine G.cse (cs' := (cn + 0, sn + 0)) rfl ?_
  refine G_aload_n dL_law_432 rfl ?_
  refine G_aload_n dL_law_433 rfl ?_
  refine G_iload dL_law_434 rfl ?_
  refine G_iconst (v := (1 : Int32)) dL_law_436 (by decide) ?_
  refine G_iadd dL_law_437 ?_
  refine G_sld hX hbl hi1 dL_law_438 ?_
  refine G_aload_n dL_law_439 rfl ?_
  refine G_iload dL_law_440 rfl ?_
  refine G_iconst (v := (2 : Int32)) dL_law_442 (by decide) ?_
  refine G_iadd dL_law_443 ?_
  refine G_sld hX hbl hi2 dL_law_444 ?_
  refine G_aload_n dL_law_445 rfl ?_
  refine G_iload dL_law_446 rfl ?_
  refine G_iconst (v := (3 : Int32)) dL_law_448 (by decide) ?_
  refine G_iadd dL_law_449 ?_
  refine G_sld hX hbl hi3 dL_law_450 ?_
  refine G_aload_n dL_law_451 rfl ?_
  refine G_iload dL_law_452 rfl ?_
  refine G_iconst (v := (4 : Int32)) dL_law_454 (by decide) ?_
  refine G_iadd dL_law_455 ?_
  refine G_sld hX hbl hi4 dL_law_456 ?_
  have hw := hP (xs (ix (i + (1 : Int32)))) (xs (ix (i + (2 : Int32)))) (xs (ix (i + (3 : Int32)))) (xs (ix (i + (4 : Int32)))) h hInv
  refine G_callV (As := [.int (xs (ix (i + (1 : Int32)))), .int (xs (ix (i + (2 : Int32)))), .int (xs (ix (i + (3 : Int32)))), .int (xs (ix (i + (4 : Int32))))]) (rb2 := (4, 0, 0)) (s_X10_lend hs x (xs (ix (i + (1 : Int32)))) (xs (ix (i + (2 : Int32)))) (xs (ix (i + (3 : Int32)))) (xs (ix (i + (4 : Int32)))) h _ hw) ca_X10_lend w_1042 w_1043 (ci := 9) rfl (by decide) w_1041 (hIK h hInv).1 (Nat.le_of_ble_eq_true rfl) (Nat.le_of_ble_eq_true rfl) rfl (Nat.le_of_ble_eq_true rfl) (by show _ + _ ≤ 601024; simp only []; omega) (by show _ + _ ≤ 7293034; simp only []; omega) dL_law_457 rfl (fun v h1 hq => ?_)
  obtain ⟨r2, rfl, hw⟩ := hq
  obtain ⟨hy, hw⟩ := hw
  refine G.cse (cs' := (cn + 0, sn + 0)) rfl ?_
  show GZ _ _ _ _ _ _ _ 460 _ [.int r2] _ _
  refine G_aload_n dL_law_460 rfl ?_
  refine G_aload_n dL_law_461 rfl ?_
  refine G_iload dL_law_462 rfl ?_
  refine G_iconst (v := (1 : Int32)) dL_law_464 (by decide) ?_
  refine G_iadd dL_law_465 ?_
  refine G_sld hX hbl hi1 dL_law_466 ?_
  refine G_aload_n dL_law_467 rfl ?_
  refine G_iload dL_law_468 rfl ?_
  refine G_iconst (v := (2 : Int32)) dL_law_470 (by decide) ?_
  refine G_iadd dL_law_471 ?_
  refine G_sld hX hbl hi2 dL_law_472 ?_
  refine G_aload_n dL_law_473 rfl ?_
  refine G_iload dL_law_474 rfl ?_
  refine G_iconst (v := (3 : Int32)) dL_law_476 (by decide) ?_
  refine G_iadd dL_law_477 ?_
  refine G_sld hX hbl hi3 dL_law_478 ?_
  refine G_aload_n dL_law_479 rfl ?_
  refine G_iload dL_law_480 rfl ?_
  refine G_iconst (v := (4 : Int32)) dL_law_482 (by decide) ?_
  refine G_iadd dL_law_483 ?_
  refine G_sld hX hbl hi4 dL_law_484 ?_
  refine G_callV (As := [.int (xs (ix (i + (1 : Int32)))), .int (xs (ix (i + (2 : Int32)))), .int (xs (ix (i + (3 : Int32)))), .int (xs (ix (i + (4 : Int32))))]) (rb2 := (3, 0, 0)) (s_X11_lend hs yy (xs (ix (i + (1 : Int32)))) (xs (ix (i + (2 : Int32)))) (xs (ix (i + (3 : Int32)))) (xs (ix (i + (4 : Int32)))) h1 _ hw) ca_X11_lend w_1868 w_1869 (ci := 10) rfl (by decide) w_1867 hy (Nat.le_of_ble_eq_true rfl) (Nat.le_of_ble_eq_true rfl) rfl (Nat.le_of_ble_eq_true rfl) (by show _ + _ ≤ 601024; simp only []; omega) (by show _ + _ ≤ 7293034; simp only []; omega) dL_law_485 rfl (fun v h3 hq => ?_)
  obtain ⟨r4, rfl, hw⟩ := hq
  obtain ⟨rfl, hInv⟩ := hw
  refine G.cse (cs' := (cn + 0, sn + 0)) rfl ?_
  show GZ _ _ _ _ _ _ _ 488 _ [.int r2, .int r2] _ _
  refine G_icmp_eq (tgt := 1122) dL_law_488 rfl (fun _ => ?_) (fun q => absurd rfl q)
  refine G.less [some (.ref b), some (.ref x), some (.ref yy), some (.ref o), some (.int i), none, none] ⟨rfl, ⟨rfl, ⟨rfl, ⟨rfl, ⟨rfl, trivial⟩⟩⟩⟩⟩ ?_
  refine G.wid (cs' := (cn + 2, sn + 12)) (by simp only []; omega) (by simp only []; omega) ?_
  exact hk h3 hInv
set_option maxHeartbeats 4000000 in
set_option maxRecDepth 100000 in
theorem lc_hour {Γ : GX} (hs : SF Γ) {N x yy o b L : Nat} {xs : Nat → Int32} {Inv Inv' : PH → Prop} (hX : va_X b L xs Γ.2.1 Γ.2.1.heap) (hbl : b < Γ.2.1.heap.size) (hIK : ∀ h, Inv h → hK h x = 9 ∧ hK h yy = 10) (hP : D_hour Inv Inv' N x yy) {i : Int32} (hi1 : inb (i + (1 : Int32)) L) (hi2 : inb (i + (2 : Int32)) L) (hi3 : inb (i + (3 : Int32)) L) (hi4 : inb (i + (4 : Int32)) L) (hi5 : inb (i + (5 : Int32)) L) (hi6 : inb (i + (6 : Int32)) L) {cn sn : Nat} (hcn : cn + 2 ≤ 601024) (hsn : sn + 12 ≤ 7293034) {h : PH} (hInv : Inv h) (hk : ∀ h2, Inv' h2 → LG Γ 1122 b x yy o i h2 (cn + 2, sn + 12)) : LG Γ 493 b x yy o i h (cn, sn) := by
  refine G.cse (cs' := (cn + 0, sn + 0)) rfl ?_
  refine G_aload_n dL_law_493 rfl ?_
  have hw := hP  h hInv
  refine G_callV (As := []) (rb2 := (7, 0, 0)) (s_X10_hour hs x  h _ hw) ca_X10_hour w_1055 w_1056 (ci := 9) rfl (by decide) w_1054 (hIK h hInv).1 (Nat.le_of_ble_eq_true rfl) (Nat.le_of_ble_eq_true rfl) rfl (Nat.le_of_ble_eq_true rfl) (by show _ + _ ≤ 601024; simp only []; omega) (by show _ + _ ≤ 7293034; simp only []; omega) dL_law_494 rfl (fun v h1 hq => ?_)
  obtain ⟨r2, rfl, hw⟩ := hq
  obtain ⟨hy, hw⟩ := hw
  refine G.cse (cs' := (cn + 0, sn + 0)) rfl ?_
  show GZ _ _ _ _ _ _ _ 497 _ [.int r2] _ _
  refine G_aload_n dL_law_497 rfl ?_
  refine G_callV (As := []) (rb2 := (8, 0, 0)) (s_X11_hour hs yy  h1 _ hw) ca_X11_hour w_1876 w_1877 (ci := 10) rfl (by decide) w_1875 hy (Nat.le_of_ble_eq_true rfl) (Nat.le_of_ble_eq_true rfl) rfl (Nat.le_of_ble_eq_true rfl) (by show _ + _ ≤ 601024; simp only []; omega) (by show _ + _ ≤ 7293034; simp only []; omega) dL_law_498 rfl (fun v h3 hq => ?_)
  obtain ⟨r4, rfl, hw⟩ := hq
  obtain ⟨rfl, hInv⟩ := hw
  refine G.cse (cs' := (cn + 0, sn + 0)) rfl ?_
  show GZ _ _ _ _ _ _ _ 501 _ [.int r2, .int r2] _ _
  refine G_icmp_eq (tgt := 1122) dL_law_501 rfl (fun _ => ?_) (fun q => absurd rfl q)
  refine G.less [some (.ref b), some (.ref x), some (.ref yy), some (.ref o), some (.int i), none, none] ⟨rfl, ⟨rfl, ⟨rfl, ⟨rfl, ⟨rfl, trivial⟩⟩⟩⟩⟩ ?_
  refine G.wid (cs' := (cn + 2, sn + 12)) (by simp only []; omega) (by simp only []; omega) ?_
  exact hk h3 hInv
set_option maxHeartbeats 4000000 in
set_option maxRecDepth 100000 in
theorem lc_undo {Γ : GX} (hs : SF Γ) {N x yy o b L : Nat} {xs : Nat → Int32} {Inv Inv' : PH → Prop} (hX : va_X b L xs Γ.2.1 Γ.2.1.heap) (hbl : b < Γ.2.1.heap.size) (hIK : ∀ h, Inv h → hK h x = 9 ∧ hK h yy = 10) (hP : D_undo Inv Inv' N x yy) {i : Int32} (hi1 : inb (i + (1 : Int32)) L) (hi2 : inb (i + (2 : Int32)) L) (hi3 : inb (i + (3 : Int32)) L) (hi4 : inb (i + (4 : Int32)) L) (hi5 : inb (i + (5 : Int32)) L) (hi6 : inb (i + (6 : Int32)) L) {cn sn : Nat} (hcn : cn + 2 ≤ 601024) (hsn : sn + 12 ≤ 7293034) {h : PH} (hInv : Inv h) (hk : ∀ h2, Inv' h2 → LG Γ 1122 b x yy o i h2 (cn + 2, sn + 12)) : LG Γ 506 b x yy o i h (cn, sn) := by
  refine G.cse (cs' := (cn + 0, sn + 0)) rfl ?_
  refine G_aload_n dL_law_506 rfl ?_
  have hw := hP  h hInv
  refine G_callV (As := []) (rb2 := (3, 0, 0)) (s_X10_undo hs x  h _ hw) ca_X10_undo w_1071 w_1072 (ci := 9) rfl (by decide) w_1070 (hIK h hInv).1 (Nat.le_of_ble_eq_true rfl) (Nat.le_of_ble_eq_true rfl) rfl (Nat.le_of_ble_eq_true rfl) (by show _ + _ ≤ 601024; simp only []; omega) (by show _ + _ ≤ 7293034; simp only []; omega) dL_law_507 rfl (fun v h1 hq => ?_)
  obtain ⟨r2, rfl, hw⟩ := hq
  obtain ⟨hy, hw⟩ := hw
  refine G.cse (cs' := (cn + 0, sn + 0)) rfl ?_
  show GZ _ _ _ _ _ _ _ 510 _ [.int r2] _ _
  refine G_aload_n dL_law_510 rfl ?_
  refine G_callV (As := []) (rb2 := (2, 0, 0)) (s_X11_undo hs yy  h1 _ hw) ca_X11_undo w_1888 w_1889 (ci := 10) rfl (by decide) w_1887 hy (Nat.le_of_ble_eq_true rfl) (Nat.le_of_ble_eq_true rfl) rfl (Nat.le_of_ble_eq_true rfl) (by show _ + _ ≤ 601024; simp only []; omega) (by show _ + _ ≤ 7293034; simp only []; omega) dL_law_511 rfl (fun v h3 hq => ?_)
  obtain ⟨r4, rfl, hw⟩ := hq
  obtain ⟨rfl, hInv⟩ := hw
  refine G.cse (cs' := (cn + 0, sn + 0)) rfl ?_
  show GZ _ _ _ _ _ _ _ 514 _ [.int r2, .int r2] _ _
  refine G_icmp_eq (tgt := 1122) dL_law_514 rfl (fun _ => ?_) (fun q => absurd rfl q)
  refine G.less [some (.ref b), some (.ref x), some (.ref yy), some (.ref o), some (.int i), none, none] ⟨rfl, ⟨rfl, ⟨rfl, ⟨rfl, ⟨rfl, trivial⟩⟩⟩⟩⟩ ?_
  refine G.wid (cs' := (cn + 2, sn + 12)) (by simp only []; omega) (by simp only []; omega) ?_
  exact hk h3 hInv
set_option maxHeartbeats 4000000 in
set_option maxRecDepth 100000 in
theorem lc_judged {Γ : GX} (hs : SF Γ) {N x yy o b L : Nat} {xs : Nat → Int32} {Inv Inv' : PH → Prop} (hX : va_X b L xs Γ.2.1 Γ.2.1.heap) (hbl : b < Γ.2.1.heap.size) (hIK : ∀ h, Inv h → hK h x = 9 ∧ hK h yy = 10) (hP : D_judged Inv Inv' N x yy) {i : Int32} (hi1 : inb (i + (1 : Int32)) L) (hi2 : inb (i + (2 : Int32)) L) (hi3 : inb (i + (3 : Int32)) L) (hi4 : inb (i + (4 : Int32)) L) (hi5 : inb (i + (5 : Int32)) L) (hi6 : inb (i + (6 : Int32)) L) {cn sn : Nat} (hcn : cn + 2 ≤ 601024) (hsn : sn + 12 ≤ 7293034) {h : PH} (hInv : Inv h) (hk : ∀ h2, Inv' h2 → LG Γ 1122 b x yy o i h2 (cn + 2, sn + 12)) : LG Γ 519 b x yy o i h (cn, sn) := by
  refine G.cse (cs' := (cn + 0, sn + 0)) rfl ?_
  refine G_aload_n dL_law_519 rfl ?_
  refine G_aload_n dL_law_520 rfl ?_
  refine G_iload dL_law_521 rfl ?_
  refine G_iconst (v := (1 : Int32)) dL_law_523 (by decide) ?_
  refine G_iadd dL_law_524 ?_
  refine G_sld hX hbl hi1 dL_law_525 ?_
  have hw := hP (xs (ix (i + (1 : Int32)))) h hInv
  refine G_callV (As := [.int (xs (ix (i + (1 : Int32))))]) (rb2 := (8, 0, 0)) (s_X10_judged hs x (xs (ix (i + (1 : Int32)))) h _ hw) ca_X10_judged w_1075 w_1076 (ci := 9) rfl (by decide) w_1074 (hIK h hInv).1 (Nat.le_of_ble_eq_true rfl) (Nat.le_of_ble_eq_true rfl) rfl (Nat.le_of_ble_eq_true rfl) (by show _ + _ ≤ 601024; simp only []; omega) (by show _ + _ ≤ 7293034; simp only []; omega) dL_law_526 rfl (fun v h1 hq => ?_)
  obtain ⟨r2, rfl, hw⟩ := hq
  obtain ⟨hy, hw⟩ := hw
  refine G.cse (cs' := (cn + 0, sn + 0)) rfl ?_
  show GZ _ _ _ _ _ _ _ 529 _ [.int r2] _ _
  refine G_aload_n dL_law_529 rfl ?_
  refine G_aload_n dL_law_530 rfl ?_
  refine G_iload dL_law_531 rfl ?_
  refine G_iconst (v := (1 : Int32)) dL_law_533 (by decide) ?_
  refine G_iadd dL_law_534 ?_
  refine G_sld hX hbl hi1 dL_law_535 ?_
  refine G_callV (As := [.int (xs (ix (i + (1 : Int32))))]) (rb2 := (8, 0, 0)) (s_X11_judged hs yy (xs (ix (i + (1 : Int32)))) h1 _ hw) ca_X11_judged w_1892 w_1893 (ci := 10) rfl (by decide) w_1891 hy (Nat.le_of_ble_eq_true rfl) (Nat.le_of_ble_eq_true rfl) rfl (Nat.le_of_ble_eq_true rfl) (by show _ + _ ≤ 601024; simp only []; omega) (by show _ + _ ≤ 7293034; simp only []; omega) dL_law_536 rfl (fun v h3 hq => ?_)
  obtain ⟨r4, rfl, hw⟩ := hq
  obtain ⟨rfl, hInv⟩ := hw
  refine G.cse (cs' := (cn + 0, sn + 0)) rfl ?_
  show GZ _ _ _ _ _ _ _ 539 _ [.int r2, .int r2] _ _
  refine G_icmp_eq (tgt := 1122) dL_law_539 rfl (fun _ => ?_) (fun q => absurd rfl q)
  refine G.less [some (.ref b), some (.ref x), some (.ref yy), some (.ref o), some (.int i), none, none] ⟨rfl, ⟨rfl, ⟨rfl, ⟨rfl, ⟨rfl, trivial⟩⟩⟩⟩⟩ ?_
  refine G.wid (cs' := (cn + 2, sn + 12)) (by simp only []; omega) (by simp only []; omega) ?_
  exact hk h3 hInv
set_option maxHeartbeats 4000000 in
set_option maxRecDepth 100000 in
theorem lc_spell {Γ : GX} (hs : SF Γ) {N x yy o b L : Nat} {xs : Nat → Int32} {Inv Inv' : PH → Prop} (hX : va_X b L xs Γ.2.1 Γ.2.1.heap) (hbl : b < Γ.2.1.heap.size) (hIK : ∀ h, Inv h → hK h x = 9 ∧ hK h yy = 10) (hP : D_spell Inv Inv' N x yy) {i : Int32} (hi1 : inb (i + (1 : Int32)) L) (hi2 : inb (i + (2 : Int32)) L) (hi3 : inb (i + (3 : Int32)) L) (hi4 : inb (i + (4 : Int32)) L) (hi5 : inb (i + (5 : Int32)) L) (hi6 : inb (i + (6 : Int32)) L) {cn sn : Nat} (hcn : cn + 2 ≤ 601024) (hsn : sn + 12 ≤ 7293034) {h : PH} (hInv : Inv h) (hk : ∀ h2, Inv' h2 → LG Γ 1122 b x yy o i h2 (cn + 2, sn + 12)) : LG Γ 544 b x yy o i h (cn, sn) := by
  refine G.cse (cs' := (cn + 0, sn + 0)) rfl ?_
  refine G_aload_n dL_law_544 rfl ?_
  refine G_aload_n dL_law_545 rfl ?_
  refine G_iload dL_law_546 rfl ?_
  refine G_iconst (v := (1 : Int32)) dL_law_548 (by decide) ?_
  refine G_iadd dL_law_549 ?_
  refine G_sld hX hbl hi1 dL_law_550 ?_
  refine G_aload_n dL_law_551 rfl ?_
  refine G_iload dL_law_552 rfl ?_
  refine G_iconst (v := (2 : Int32)) dL_law_554 (by decide) ?_
  refine G_iadd dL_law_555 ?_
  refine G_sld hX hbl hi2 dL_law_556 ?_
  refine G_aload_n dL_law_557 rfl ?_
  refine G_iload dL_law_558 rfl ?_
  refine G_iconst (v := (3 : Int32)) dL_law_560 (by decide) ?_
  refine G_iadd dL_law_561 ?_
  refine G_sld hX hbl hi3 dL_law_562 ?_
  refine G_aload_n dL_law_563 rfl ?_
  refine G_iload dL_law_564 rfl ?_
  refine G_iconst (v := (4 : Int32)) dL_law_566 (by decide) ?_
  refine G_iadd dL_law_567 ?_
  refine G_sld hX hbl hi4 dL_law_568 ?_
  have hw := hP (xs (ix (i + (1 : Int32)))) (xs (ix (i + (2 : Int32)))) (xs (ix (i + (3 : Int32)))) (xs (ix (i + (4 : Int32)))) h hInv
  refine G_callV (As := [.int (xs (ix (i + (1 : Int32)))), .int (xs (ix (i + (2 : Int32)))), .int (xs (ix (i + (3 : Int32)))), .int (xs (ix (i + (4 : Int32))))]) (rb2 := (84, 0, 0)) (s_X10_spell hs x (xs (ix (i + (1 : Int32)))) (xs (ix (i + (2 : Int32)))) (xs (ix (i + (3 : Int32)))) (xs (ix (i + (4 : Int32)))) h _ hw) ca_X10_spell w_1100 w_1101 (ci := 9) rfl (by decide) w_1099 (hIK h hInv).1 (Nat.le_of_ble_eq_true rfl) (Nat.le_of_ble_eq_true rfl) rfl (Nat.le_of_ble_eq_true rfl) (by show _ + _ ≤ 601024; simp only []; omega) (by show _ + _ ≤ 7293034; simp only []; omega) dL_law_569 rfl (fun v h1 hq => ?_)
  obtain ⟨r2, rfl, hw⟩ := hq
  obtain ⟨hy, hw⟩ := hw
  refine G.cse (cs' := (cn + 0, sn + 0)) rfl ?_
  show GZ _ _ _ _ _ _ _ 572 _ [.int r2] _ _
  refine G_aload_n dL_law_572 rfl ?_
  refine G_aload_n dL_law_573 rfl ?_
  refine G_iload dL_law_574 rfl ?_
  refine G_iconst (v := (1 : Int32)) dL_law_576 (by decide) ?_
  refine G_iadd dL_law_577 ?_
  refine G_sld hX hbl hi1 dL_law_578 ?_
  refine G_aload_n dL_law_579 rfl ?_
  refine G_iload dL_law_580 rfl ?_
  refine G_iconst (v := (2 : Int32)) dL_law_582 (by decide) ?_
  refine G_iadd dL_law_583 ?_
  refine G_sld hX hbl hi2 dL_law_584 ?_
  refine G_aload_n dL_law_585 rfl ?_
  refine G_iload dL_law_586 rfl ?_
  refine G_iconst (v := (3 : Int32)) dL_law_588 (by decide) ?_
  refine G_iadd dL_law_589 ?_
  refine G_sld hX hbl hi3 dL_law_590 ?_
  refine G_aload_n dL_law_591 rfl ?_
  refine G_iload dL_law_592 rfl ?_
  refine G_iconst (v := (4 : Int32)) dL_law_594 (by decide) ?_
  refine G_iadd dL_law_595 ?_
  refine G_sld hX hbl hi4 dL_law_596 ?_
  refine G_callV (As := [.int (xs (ix (i + (1 : Int32)))), .int (xs (ix (i + (2 : Int32)))), .int (xs (ix (i + (3 : Int32)))), .int (xs (ix (i + (4 : Int32))))]) (rb2 := (10, 0, 0)) (s_X11_spell hs yy (xs (ix (i + (1 : Int32)))) (xs (ix (i + (2 : Int32)))) (xs (ix (i + (3 : Int32)))) (xs (ix (i + (4 : Int32)))) h1 _ hw) ca_X11_spell w_1904 w_1905 (ci := 10) rfl (by decide) w_1903 hy (Nat.le_of_ble_eq_true rfl) (Nat.le_of_ble_eq_true rfl) rfl (Nat.le_of_ble_eq_true rfl) (by show _ + _ ≤ 601024; simp only []; omega) (by show _ + _ ≤ 7293034; simp only []; omega) dL_law_597 rfl (fun v h3 hq => ?_)
  obtain ⟨r4, rfl, hw⟩ := hq
  obtain ⟨rfl, hInv⟩ := hw
  refine G.cse (cs' := (cn + 0, sn + 0)) rfl ?_
  show GZ _ _ _ _ _ _ _ 600 _ [.int r2, .int r2] _ _
  refine G_icmp_eq (tgt := 1122) dL_law_600 rfl (fun _ => ?_) (fun q => absurd rfl q)
  refine G.less [some (.ref b), some (.ref x), some (.ref yy), some (.ref o), some (.int i), none, none] ⟨rfl, ⟨rfl, ⟨rfl, ⟨rfl, ⟨rfl, trivial⟩⟩⟩⟩⟩ ?_
  refine G.wid (cs' := (cn + 2, sn + 12)) (by simp only []; omega) (by simp only []; omega) ?_
  exact hk h3 hInv
set_option maxHeartbeats 4000000 in
set_option maxRecDepth 100000 in
theorem lc_sure {Γ : GX} (hs : SF Γ) {N x yy o b L : Nat} {xs : Nat → Int32} {Inv Inv' : PH → Prop} (hX : va_X b L xs Γ.2.1 Γ.2.1.heap) (hbl : b < Γ.2.1.heap.size) (hIK : ∀ h, Inv h → hK h x = 9 ∧ hK h yy = 10) (hP : D_sure Inv Inv' N x yy) {i : Int32} (hi1 : inb (i + (1 : Int32)) L) (hi2 : inb (i + (2 : Int32)) L) (hi3 : inb (i + (3 : Int32)) L) (hi4 : inb (i + (4 : Int32)) L) (hi5 : inb (i + (5 : Int32)) L) (hi6 : inb (i + (6 : Int32)) L) {cn sn : Nat} (hcn : cn + 2 ≤ 601024) (hsn : sn + 12 ≤ 7293034) {h : PH} (hInv : Inv h) (hk : ∀ h2, Inv' h2 → LG Γ 1122 b x yy o i h2 (cn + 2, sn + 12)) : LG Γ 605 b x yy o i h (cn, sn) := by
  refine G.cse (cs' := (cn + 0, sn + 0)) rfl ?_
  refine G_aload_n dL_law_605 rfl ?_
  refine G_aload_n dL_law_606 rfl ?_
  refine G_iload dL_law_607 rfl ?_
  refine G_iconst (v := (1 : Int32)) dL_law_609 (by decide) ?_
  refine G_iadd dL_law_610 ?_
  refine G_sld hX hbl hi1 dL_law_611 ?_
  refine G_aload_n dL_law_612 rfl ?_
  refine G_iload dL_law_613 rfl ?_
  refine G_iconst (v := (2 : Int32)) dL_law_615 (by decide) ?_
  refine G_iadd dL_law_616 ?_
  refine G_sld hX hbl hi2 dL_law_617 ?_
  have hw := hP (xs (ix (i + (1 : Int32)))) (xs (ix (i + (2 : Int32)))) h hInv
  refine G_callV (As := [.int (xs (ix (i + (1 : Int32)))), .int (xs (ix (i + (2 : Int32))))]) (rb2 := (48, 0, 0)) (s_X10_sure hs x (xs (ix (i + (1 : Int32)))) (xs (ix (i + (2 : Int32)))) h _ hw) ca_X10_sure w_1158 w_1159 (ci := 9) rfl (by decide) w_1157 (hIK h hInv).1 (Nat.le_of_ble_eq_true rfl) (Nat.le_of_ble_eq_true rfl) rfl (Nat.le_of_ble_eq_true rfl) (by show _ + _ ≤ 601024; simp only []; omega) (by show _ + _ ≤ 7293034; simp only []; omega) dL_law_618 rfl (fun v h1 hq => ?_)
  obtain ⟨r2, rfl, hw⟩ := hq
  obtain ⟨hy, hw⟩ := hw
  refine G.cse (cs' := (cn + 0, sn + 0)) rfl ?_
  show GZ _ _ _ _ _ _ _ 621 _ [.int r2] _ _
  refine G_aload_n dL_law_621 rfl ?_
  refine G_aload_n dL_law_622 rfl ?_
  refine G_iload dL_law_623 rfl ?_
  refine G_iconst (v := (1 : Int32)) dL_law_625 (by decide) ?_
  refine G_iadd dL_law_626 ?_
  refine G_sld hX hbl hi1 dL_law_627 ?_
  refine G_aload_n dL_law_628 rfl ?_
  refine G_iload dL_law_629 rfl ?_
  refine G_iconst (v := (2 : Int32)) dL_law_631 (by decide) ?_
  refine G_iadd dL_law_632 ?_
  refine G_sld hX hbl hi2 dL_law_633 ?_
  refine G_callV (As := [.int (xs (ix (i + (1 : Int32)))), .int (xs (ix (i + (2 : Int32))))]) (rb2 := (10, 0, 0)) (s_X11_sure hs yy (xs (ix (i + (1 : Int32)))) (xs (ix (i + (2 : Int32)))) h1 _ hw) ca_X11_sure w_1952 w_1953 (ci := 10) rfl (by decide) w_1951 hy (Nat.le_of_ble_eq_true rfl) (Nat.le_of_ble_eq_true rfl) rfl (Nat.le_of_ble_eq_true rfl) (by show _ + _ ≤ 601024; simp only []; omega) (by show _ + _ ≤ 7293034; simp only []; omega) dL_law_634 rfl (fun v h3 hq => ?_)
  obtain ⟨r4, rfl, hw⟩ := hq
  obtain ⟨rfl, hInv⟩ := hw
  refine G.cse (cs' := (cn + 0, sn + 0)) rfl ?_
  show GZ _ _ _ _ _ _ _ 637 _ [.int r2, .int r2] _ _
  refine G_icmp_eq (tgt := 1122) dL_law_637 rfl (fun _ => ?_) (fun q => absurd rfl q)
  refine G.less [some (.ref b), some (.ref x), some (.ref yy), some (.ref o), some (.int i), none, none] ⟨rfl, ⟨rfl, ⟨rfl, ⟨rfl, ⟨rfl, trivial⟩⟩⟩⟩⟩ ?_
  refine G.wid (cs' := (cn + 2, sn + 12)) (by simp only []; omega) (by simp only []; omega) ?_
  exact hk h3 hInv
set_option maxHeartbeats 4000000 in
set_option maxRecDepth 100000 in
theorem lc_hope {Γ : GX} (hs : SF Γ) {N x yy o b L : Nat} {xs : Nat → Int32} {Inv Inv' : PH → Prop} (hX : va_X b L xs Γ.2.1 Γ.2.1.heap) (hbl : b < Γ.2.1.heap.size) (hIK : ∀ h, Inv h → hK h x = 9 ∧ hK h yy = 10) (hP : D_hope Inv Inv' N x yy) {i : Int32} (hi1 : inb (i + (1 : Int32)) L) (hi2 : inb (i + (2 : Int32)) L) (hi3 : inb (i + (3 : Int32)) L) (hi4 : inb (i + (4 : Int32)) L) (hi5 : inb (i + (5 : Int32)) L) (hi6 : inb (i + (6 : Int32)) L) {cn sn : Nat} (hcn : cn + 2 ≤ 601024) (hsn : sn + 12 ≤ 7293034) {h : PH} (hInv : Inv h) (hk : ∀ h2, Inv' h2 → LG Γ 1122 b x yy o i h2 (cn + 2, sn + 12)) : LG Γ 642 b x yy o i h (cn, sn) := by
  refine G.cse (cs' := (cn + 0, sn + 0)) rfl ?_
  refine G_aload_n dL_law_642 rfl ?_
  refine G_aload_n dL_law_643 rfl ?_
  refine G_iload dL_law_644 rfl ?_
  refine G_iconst (v := (1 : Int32)) dL_law_646 (by decide) ?_
  refine G_iadd dL_law_647 ?_
  refine G_sld hX hbl hi1 dL_law_648 ?_
  refine G_aload_n dL_law_649 rfl ?_
  refine G_iload dL_law_650 rfl ?_
  refine G_iconst (v := (2 : Int32)) dL_law_652 (by decide) ?_
  refine G_iadd dL_law_653 ?_
  refine G_sld hX hbl hi2 dL_law_654 ?_
  refine G_aload_n dL_law_655 rfl ?_
  refine G_iload dL_law_656 rfl ?_
  refine G_iconst (v := (3 : Int32)) dL_law_658 (by decide) ?_
  refine G_iadd dL_law_659 ?_
  refine G_sld hX hbl hi3 dL_law_660 ?_
  have hw := hP (xs (ix (i + (1 : Int32)))) (xs (ix (i + (2 : Int32)))) (xs (ix (i + (3 : Int32)))) h hInv
  refine G_callV (As := [.int (xs (ix (i + (1 : Int32)))), .int (xs (ix (i + (2 : Int32)))), .int (xs (ix (i + (3 : Int32))))]) (rb2 := (48, 0, 0)) (s_X10_hope hs x (xs (ix (i + (1 : Int32)))) (xs (ix (i + (2 : Int32)))) (xs (ix (i + (3 : Int32)))) h _ hw) ca_X10_hope w_1201 w_1202 (ci := 9) rfl (by decide) w_1200 (hIK h hInv).1 (Nat.le_of_ble_eq_true rfl) (Nat.le_of_ble_eq_true rfl) rfl (Nat.le_of_ble_eq_true rfl) (by show _ + _ ≤ 601024; simp only []; omega) (by show _ + _ ≤ 7293034; simp only []; omega) dL_law_661 rfl (fun v h1 hq => ?_)
  obtain ⟨r2, rfl, hw⟩ := hq
  obtain ⟨hy, hw⟩ := hw
  refine G.cse (cs' := (cn + 0, sn + 0)) rfl ?_
  show GZ _ _ _ _ _ _ _ 664 _ [.int r2] _ _
  refine G_aload_n dL_law_664 rfl ?_
  refine G_aload_n dL_law_665 rfl ?_
  refine G_iload dL_law_666 rfl ?_
  refine G_iconst (v := (1 : Int32)) dL_law_668 (by decide) ?_
  refine G_iadd dL_law_669 ?_
  refine G_sld hX hbl hi1 dL_law_670 ?_
  refine G_aload_n dL_law_671 rfl ?_
  refine G_iload dL_law_672 rfl ?_
  refine G_iconst (v := (2 : Int32)) dL_law_674 (by decide) ?_
  refine G_iadd dL_law_675 ?_
  refine G_sld hX hbl hi2 dL_law_676 ?_
  refine G_aload_n dL_law_677 rfl ?_
  refine G_iload dL_law_678 rfl ?_
  refine G_iconst (v := (3 : Int32)) dL_law_680 (by decide) ?_
  refine G_iadd dL_law_681 ?_
  refine G_sld hX hbl hi3 dL_law_682 ?_
  refine G_callV (As := [.int (xs (ix (i + (1 : Int32)))), .int (xs (ix (i + (2 : Int32)))), .int (xs (ix (i + (3 : Int32))))]) (rb2 := (10, 0, 0)) (s_X11_hope hs yy (xs (ix (i + (1 : Int32)))) (xs (ix (i + (2 : Int32)))) (xs (ix (i + (3 : Int32)))) h1 _ hw) ca_X11_hope w_1964 w_1965 (ci := 10) rfl (by decide) w_1963 hy (Nat.le_of_ble_eq_true rfl) (Nat.le_of_ble_eq_true rfl) rfl (Nat.le_of_ble_eq_true rfl) (by show _ + _ ≤ 601024; simp only []; omega) (by show _ + _ ≤ 7293034; simp only []; omega) dL_law_683 rfl (fun v h3 hq => ?_)
  obtain ⟨r4, rfl, hw⟩ := hq
  obtain ⟨rfl, hInv⟩ := hw
  refine G.cse (cs' := (cn + 0, sn + 0)) rfl ?_
  show GZ _ _ _ _ _ _ _ 686 _ [.int r2, .int r2] _ _
  refine G_icmp_eq (tgt := 1122) dL_law_686 rfl (fun _ => ?_) (fun q => absurd rfl q)
  refine G.less [some (.ref b), some (.ref x), some (.ref yy), some (.ref o), some (.int i), none, none] ⟨rfl, ⟨rfl, ⟨rfl, ⟨rfl, ⟨rfl, trivial⟩⟩⟩⟩⟩ ?_
  refine G.wid (cs' := (cn + 2, sn + 12)) (by simp only []; omega) (by simp only []; omega) ?_
  exact hk h3 hInv
set_option maxHeartbeats 4000000 in
set_option maxRecDepth 100000 in
theorem lc_read {Γ : GX} (hs : SF Γ) {N x yy o b L : Nat} {xs : Nat → Int32} {Inv Inv' : PH → Prop} (hX : va_X b L xs Γ.2.1 Γ.2.1.heap) (hbl : b < Γ.2.1.heap.size) (hIK : ∀ h, Inv h → hK h x = 9 ∧ hK h yy = 10) (hP : D_read Inv Inv' N x yy) {i : Int32} (hi1 : inb (i + (1 : Int32)) L) (hi2 : inb (i + (2 : Int32)) L) (hi3 : inb (i + (3 : Int32)) L) (hi4 : inb (i + (4 : Int32)) L) (hi5 : inb (i + (5 : Int32)) L) (hi6 : inb (i + (6 : Int32)) L) {cn sn : Nat} (hcn : cn + 2 ≤ 601024) (hsn : sn + 12 ≤ 7293034) {h : PH} (hInv : Inv h) (hk : ∀ h2, Inv' h2 → LG Γ 1122 b x yy o i h2 (cn + 2, sn + 12)) : LG Γ 691 b x yy o i h (cn, sn) := by
  refine G.cse (cs' := (cn + 0, sn + 0)) rfl ?_
  refine G_aload_n dL_law_691 rfl ?_
  refine G_aload_n dL_law_692 rfl ?_
  refine G_iload dL_law_693 rfl ?_
  refine G_iconst (v := (1 : Int32)) dL_law_695 (by decide) ?_
  refine G_iadd dL_law_696 ?_
  refine G_sld hX hbl hi1 dL_law_697 ?_
  refine G_aload_n dL_law_698 rfl ?_
  refine G_iload dL_law_699 rfl ?_
  refine G_iconst (v := (2 : Int32)) dL_law_701 (by decide) ?_
  refine G_iadd dL_law_702 ?_
  refine G_sld hX hbl hi2 dL_law_703 ?_
  refine G_aload_n dL_law_704 rfl ?_
  refine G_iload dL_law_705 rfl ?_
  refine G_iconst (v := (3 : Int32)) dL_law_707 (by decide) ?_
  refine G_iadd dL_law_708 ?_
  refine G_sld hX hbl hi3 dL_law_709 ?_
  have hw := hP (xs (ix (i + (1 : Int32)))) (xs (ix (i + (2 : Int32)))) (xs (ix (i + (3 : Int32)))) h hInv
  refine G_callV (As := [.int (xs (ix (i + (1 : Int32)))), .int (xs (ix (i + (2 : Int32)))), .int (xs (ix (i + (3 : Int32))))]) (rb2 := (3, 0, 0)) (s_X10_read hs x (xs (ix (i + (1 : Int32)))) (xs (ix (i + (2 : Int32)))) (xs (ix (i + (3 : Int32)))) h _ hw) ca_X10_read w_1206 w_1207 (ci := 9) rfl (by decide) w_1205 (hIK h hInv).1 (Nat.le_of_ble_eq_true rfl) (Nat.le_of_ble_eq_true rfl) rfl (Nat.le_of_ble_eq_true rfl) (by show _ + _ ≤ 601024; simp only []; omega) (by show _ + _ ≤ 7293034; simp only []; omega) dL_law_710 rfl (fun v h1 hq => ?_)
  obtain ⟨r2, rfl, hw⟩ := hq
  obtain ⟨hy, hw⟩ := hw
  refine G.cse (cs' := (cn + 0, sn + 0)) rfl ?_
  show GZ _ _ _ _ _ _ _ 713 _ [.int r2] _ _
  refine G_aload_n dL_law_713 rfl ?_
  refine G_aload_n dL_law_714 rfl ?_
  refine G_iload dL_law_715 rfl ?_
  refine G_iconst (v := (1 : Int32)) dL_law_717 (by decide) ?_
  refine G_iadd dL_law_718 ?_
  refine G_sld hX hbl hi1 dL_law_719 ?_
  refine G_aload_n dL_law_720 rfl ?_
  refine G_iload dL_law_721 rfl ?_
  refine G_iconst (v := (2 : Int32)) dL_law_723 (by decide) ?_
  refine G_iadd dL_law_724 ?_
  refine G_sld hX hbl hi2 dL_law_725 ?_
  refine G_aload_n dL_law_726 rfl ?_
  refine G_iload dL_law_727 rfl ?_
  refine G_iconst (v := (3 : Int32)) dL_law_729 (by decide) ?_
  refine G_iadd dL_law_730 ?_
  refine G_sld hX hbl hi3 dL_law_731 ?_
  refine G_callV (As := [.int (xs (ix (i + (1 : Int32)))), .int (xs (ix (i + (2 : Int32)))), .int (xs (ix (i + (3 : Int32))))]) (rb2 := (2, 0, 0)) (s_X11_read hs yy (xs (ix (i + (1 : Int32)))) (xs (ix (i + (2 : Int32)))) (xs (ix (i + (3 : Int32)))) h1 _ hw) ca_X11_read w_1969 w_1970 (ci := 10) rfl (by decide) w_1968 hy (Nat.le_of_ble_eq_true rfl) (Nat.le_of_ble_eq_true rfl) rfl (Nat.le_of_ble_eq_true rfl) (by show _ + _ ≤ 601024; simp only []; omega) (by show _ + _ ≤ 7293034; simp only []; omega) dL_law_732 rfl (fun v h3 hq => ?_)
  obtain ⟨r4, rfl, hw⟩ := hq
  obtain ⟨rfl, hInv⟩ := hw
  refine G.cse (cs' := (cn + 0, sn + 0)) rfl ?_
  show GZ _ _ _ _ _ _ _ 735 _ [.int r2, .int r2] _ _
  refine G_icmp_eq (tgt := 1122) dL_law_735 rfl (fun _ => ?_) (fun q => absurd rfl q)
  refine G.less [some (.ref b), some (.ref x), some (.ref yy), some (.ref o), some (.int i), none, none] ⟨rfl, ⟨rfl, ⟨rfl, ⟨rfl, ⟨rfl, trivial⟩⟩⟩⟩⟩ ?_
  refine G.wid (cs' := (cn + 2, sn + 12)) (by simp only []; omega) (by simp only []; omega) ?_
  exact hk h3 hInv
set_option maxHeartbeats 4000000 in
set_option maxRecDepth 100000 in
theorem lc_ways {Γ : GX} (hs : SF Γ) {N x yy o b L : Nat} {xs : Nat → Int32} {Inv Inv' : PH → Prop} (hX : va_X b L xs Γ.2.1 Γ.2.1.heap) (hbl : b < Γ.2.1.heap.size) (hIK : ∀ h, Inv h → hK h x = 9 ∧ hK h yy = 10) (hP : D_ways Inv Inv' N x yy) {i : Int32} (hi1 : inb (i + (1 : Int32)) L) (hi2 : inb (i + (2 : Int32)) L) (hi3 : inb (i + (3 : Int32)) L) (hi4 : inb (i + (4 : Int32)) L) (hi5 : inb (i + (5 : Int32)) L) (hi6 : inb (i + (6 : Int32)) L) {cn sn : Nat} (hcn : cn + 2 ≤ 601024) (hsn : sn + 12 ≤ 7293034) {h : PH} (hInv : Inv h) (hk : ∀ h2, Inv' h2 → LG Γ 1122 b x yy o i h2 (cn + 2, sn + 12)) : LG Γ 740 b x yy o i h (cn, sn) := by
  refine G.cse (cs' := (cn + 0, sn + 0)) rfl ?_
  refine G_aload_n dL_law_740 rfl ?_
  refine G_aload_n dL_law_741 rfl ?_
  refine G_iload dL_law_742 rfl ?_
  refine G_iconst (v := (1 : Int32)) dL_law_744 (by decide) ?_
  refine G_iadd dL_law_745 ?_
  refine G_sld hX hbl hi1 dL_law_746 ?_
  have hw := hP (xs (ix (i + (1 : Int32)))) h hInv
  refine G_callV (As := [.int (xs (ix (i + (1 : Int32))))]) (rb2 := (48, 0, 0)) (s_X10_ways hs x (xs (ix (i + (1 : Int32)))) h _ hw) ca_X10_ways w_1214 w_1215 (ci := 9) rfl (by decide) w_1213 (hIK h hInv).1 (Nat.le_of_ble_eq_true rfl) (Nat.le_of_ble_eq_true rfl) rfl (Nat.le_of_ble_eq_true rfl) (by show _ + _ ≤ 601024; simp only []; omega) (by show _ + _ ≤ 7293034; simp only []; omega) dL_law_747 rfl (fun v h1 hq => ?_)
  obtain ⟨r2, rfl, hw⟩ := hq
  obtain ⟨hy, hw⟩ := hw
  refine G.cse (cs' := (cn + 0, sn + 0)) rfl ?_
  show GZ _ _ _ _ _ _ _ 750 _ [.int r2] _ _
  refine G_aload_n dL_law_750 rfl ?_
  refine G_aload_n dL_law_751 rfl ?_
  refine G_iload dL_law_752 rfl ?_
  refine G_iconst (v := (1 : Int32)) dL_law_754 (by decide) ?_
  refine G_iadd dL_law_755 ?_
  refine G_sld hX hbl hi1 dL_law_756 ?_
  refine G_callV (As := [.int (xs (ix (i + (1 : Int32))))]) (rb2 := (12, 0, 0)) (s_X11_ways hs yy (xs (ix (i + (1 : Int32)))) h1 _ hw) ca_X11_ways w_1973 w_1974 (ci := 10) rfl (by decide) w_1972 hy (Nat.le_of_ble_eq_true rfl) (Nat.le_of_ble_eq_true rfl) rfl (Nat.le_of_ble_eq_true rfl) (by show _ + _ ≤ 601024; simp only []; omega) (by show _ + _ ≤ 7293034; simp only []; omega) dL_law_757 rfl (fun v h3 hq => ?_)
  obtain ⟨r4, rfl, hw⟩ := hq
  obtain ⟨rfl, hInv⟩ := hw
  refine G.cse (cs' := (cn + 0, sn + 0)) rfl ?_
  show GZ _ _ _ _ _ _ _ 760 _ [.int r2, .int r2] _ _
  refine G_icmp_eq (tgt := 1122) dL_law_760 rfl (fun _ => ?_) (fun q => absurd rfl q)
  refine G.less [some (.ref b), some (.ref x), some (.ref yy), some (.ref o), some (.int i), none, none] ⟨rfl, ⟨rfl, ⟨rfl, ⟨rfl, ⟨rfl, trivial⟩⟩⟩⟩⟩ ?_
  refine G.wid (cs' := (cn + 2, sn + 12)) (by simp only []; omega) (by simp only []; omega) ?_
  exact hk h3 hInv
set_option maxHeartbeats 4000000 in
set_option maxRecDepth 100000 in
theorem lc_ask {Γ : GX} (hs : SF Γ) {N x yy o b L : Nat} {xs : Nat → Int32} {Inv Inv' : PH → Prop} (hX : va_X b L xs Γ.2.1 Γ.2.1.heap) (hbl : b < Γ.2.1.heap.size) (hIK : ∀ h, Inv h → hK h x = 9 ∧ hK h yy = 10) (hP : D_ask Inv Inv' N x yy) {i : Int32} (hi1 : inb (i + (1 : Int32)) L) (hi2 : inb (i + (2 : Int32)) L) (hi3 : inb (i + (3 : Int32)) L) (hi4 : inb (i + (4 : Int32)) L) (hi5 : inb (i + (5 : Int32)) L) (hi6 : inb (i + (6 : Int32)) L) {cn sn : Nat} (hcn : cn + 2 ≤ 601024) (hsn : sn + 12 ≤ 7293034) {h : PH} (hInv : Inv h) (hk : ∀ h2, Inv' h2 → LG Γ 1122 b x yy o i h2 (cn + 2, sn + 12)) : LG Γ 765 b x yy o i h (cn, sn) := by
  refine G.cse (cs' := (cn + 0, sn + 0)) rfl ?_
  refine G_aload_n dL_law_765 rfl ?_
  have hw := hP  h hInv
  refine G_callV (As := []) (rb2 := (48, 0, 0)) (s_X10_ask hs x  h _ hw) ca_X10_ask w_1227 w_1228 (ci := 9) rfl (by decide) w_1226 (hIK h hInv).1 (Nat.le_of_ble_eq_true rfl) (Nat.le_of_ble_eq_true rfl) rfl (Nat.le_of_ble_eq_true rfl) (by show _ + _ ≤ 601024; simp only []; omega) (by show _ + _ ≤ 7293034; simp only []; omega) dL_law_766 rfl (fun v h1 hq => ?_)
  obtain ⟨r2, rfl, hw⟩ := hq
  obtain ⟨hy, hw⟩ := hw
  refine G.cse (cs' := (cn + 0, sn + 0)) rfl ?_
  show GZ _ _ _ _ _ _ _ 769 _ [.int r2] _ _
  refine G_aload_n dL_law_769 rfl ?_
  refine G_callV (As := []) (rb2 := (12, 0, 0)) (s_X11_ask hs yy  h1 _ hw) ca_X11_ask w_1997 w_1998 (ci := 10) rfl (by decide) w_1996 hy (Nat.le_of_ble_eq_true rfl) (Nat.le_of_ble_eq_true rfl) rfl (Nat.le_of_ble_eq_true rfl) (by show _ + _ ≤ 601024; simp only []; omega) (by show _ + _ ≤ 7293034; simp only []; omega) dL_law_770 rfl (fun v h3 hq => ?_)
  obtain ⟨r4, rfl, hw⟩ := hq
  obtain ⟨rfl, hInv⟩ := hw
  refine G.cse (cs' := (cn + 0, sn + 0)) rfl ?_
  show GZ _ _ _ _ _ _ _ 773 _ [.int r2, .int r2] _ _
  refine G_icmp_eq (tgt := 1122) dL_law_773 rfl (fun _ => ?_) (fun q => absurd rfl q)
  refine G.less [some (.ref b), some (.ref x), some (.ref yy), some (.ref o), some (.int i), none, none] ⟨rfl, ⟨rfl, ⟨rfl, ⟨rfl, ⟨rfl, trivial⟩⟩⟩⟩⟩ ?_
  refine G.wid (cs' := (cn + 2, sn + 12)) (by simp only []; omega) (by simp only []; omega) ?_
  exact hk h3 hInv
set_option maxHeartbeats 4000000 in
set_option maxRecDepth 100000 in
theorem lc_blur {Γ : GX} (hs : SF Γ) {N x yy o b L : Nat} {xs : Nat → Int32} {Inv Inv' : PH → Prop} (hX : va_X b L xs Γ.2.1 Γ.2.1.heap) (hbl : b < Γ.2.1.heap.size) (hIK : ∀ h, Inv h → hK h x = 9 ∧ hK h yy = 10) (hP : D_blur Inv Inv' N x yy) {i : Int32} (hi1 : inb (i + (1 : Int32)) L) (hi2 : inb (i + (2 : Int32)) L) (hi3 : inb (i + (3 : Int32)) L) (hi4 : inb (i + (4 : Int32)) L) (hi5 : inb (i + (5 : Int32)) L) (hi6 : inb (i + (6 : Int32)) L) {cn sn : Nat} (hcn : cn + 2 ≤ 601024) (hsn : sn + 12 ≤ 7293034) {h : PH} (hInv : Inv h) (hk : ∀ h2, Inv' h2 → LG Γ 1122 b x yy o i h2 (cn + 2, sn + 12)) : LG Γ 778 b x yy o i h (cn, sn) := by
  refine G.cse (cs' := (cn + 0, sn + 0)) rfl ?_
  refine G_aload_n dL_law_778 rfl ?_
  refine G_aload_n dL_law_779 rfl ?_
  refine G_iload dL_law_780 rfl ?_
  refine G_iconst (v := (1 : Int32)) dL_law_782 (by decide) ?_
  refine G_iadd dL_law_783 ?_
  refine G_sld hX hbl hi1 dL_law_784 ?_
  refine G_aload_n dL_law_785 rfl ?_
  refine G_iload dL_law_786 rfl ?_
  refine G_iconst (v := (2 : Int32)) dL_law_788 (by decide) ?_
  refine G_iadd dL_law_789 ?_
  refine G_sld hX hbl hi2 dL_law_790 ?_
  have hw := hP (xs (ix (i + (1 : Int32)))) (xs (ix (i + (2 : Int32)))) h hInv
  refine G_callV (As := [.int (xs (ix (i + (1 : Int32)))), .int (xs (ix (i + (2 : Int32))))]) (rb2 := (2, 0, 0)) (s_X10_blur hs x (xs (ix (i + (1 : Int32)))) (xs (ix (i + (2 : Int32)))) h _ hw) ca_X10_blur w_1231 w_1232 (ci := 9) rfl (by decide) w_1230 (hIK h hInv).1 (Nat.le_of_ble_eq_true rfl) (Nat.le_of_ble_eq_true rfl) rfl (Nat.le_of_ble_eq_true rfl) (by show _ + _ ≤ 601024; simp only []; omega) (by show _ + _ ≤ 7293034; simp only []; omega) dL_law_791 rfl (fun v h1 hq => ?_)
  obtain ⟨r2, rfl, hw⟩ := hq
  obtain ⟨hy, hw⟩ := hw
  refine G.cse (cs' := (cn + 0, sn + 0)) rfl ?_
  show GZ _ _ _ _ _ _ _ 794 _ [.int r2] _ _
  refine G_aload_n dL_law_794 rfl ?_
  refine G_aload_n dL_law_795 rfl ?_
  refine G_iload dL_law_796 rfl ?_
  refine G_iconst (v := (1 : Int32)) dL_law_798 (by decide) ?_
  refine G_iadd dL_law_799 ?_
  refine G_sld hX hbl hi1 dL_law_800 ?_
  refine G_aload_n dL_law_801 rfl ?_
  refine G_iload dL_law_802 rfl ?_
  refine G_iconst (v := (2 : Int32)) dL_law_804 (by decide) ?_
  refine G_iadd dL_law_805 ?_
  refine G_sld hX hbl hi2 dL_law_806 ?_
  refine G_callV (As := [.int (xs (ix (i + (1 : Int32)))), .int (xs (ix (i + (2 : Int32))))]) (rb2 := (3, 0, 0)) (s_X11_blur hs yy (xs (ix (i + (1 : Int32)))) (xs (ix (i + (2 : Int32)))) h1 _ hw) ca_X11_blur w_2005 w_2006 (ci := 10) rfl (by decide) w_2004 hy (Nat.le_of_ble_eq_true rfl) (Nat.le_of_ble_eq_true rfl) rfl (Nat.le_of_ble_eq_true rfl) (by show _ + _ ≤ 601024; simp only []; omega) (by show _ + _ ≤ 7293034; simp only []; omega) dL_law_807 rfl (fun v h3 hq => ?_)
  obtain ⟨r4, rfl, hw⟩ := hq
  obtain ⟨rfl, hInv⟩ := hw
  refine G.cse (cs' := (cn + 0, sn + 0)) rfl ?_
  show GZ _ _ _ _ _ _ _ 810 _ [.int r2, .int r2] _ _
  refine G_icmp_eq (tgt := 1122) dL_law_810 rfl (fun _ => ?_) (fun q => absurd rfl q)
  refine G.less [some (.ref b), some (.ref x), some (.ref yy), some (.ref o), some (.int i), none, none] ⟨rfl, ⟨rfl, ⟨rfl, ⟨rfl, ⟨rfl, trivial⟩⟩⟩⟩⟩ ?_
  refine G.wid (cs' := (cn + 2, sn + 12)) (by simp only []; omega) (by simp only []; omega) ?_
  exact hk h3 hInv
set_option maxHeartbeats 4000000 in
set_option maxRecDepth 100000 in
theorem lc_share {Γ : GX} (hs : SF Γ) {N x yy o b L : Nat} {xs : Nat → Int32} {Inv Inv' : PH → Prop} (hX : va_X b L xs Γ.2.1 Γ.2.1.heap) (hbl : b < Γ.2.1.heap.size) (hIK : ∀ h, Inv h → hK h x = 9 ∧ hK h yy = 10) (hP : D_share Inv Inv' N x yy) {i : Int32} (hi1 : inb (i + (1 : Int32)) L) (hi2 : inb (i + (2 : Int32)) L) (hi3 : inb (i + (3 : Int32)) L) (hi4 : inb (i + (4 : Int32)) L) (hi5 : inb (i + (5 : Int32)) L) (hi6 : inb (i + (6 : Int32)) L) {cn sn : Nat} (hcn : cn + 2 ≤ 601024) (hsn : sn + 12 ≤ 7293034) {h : PH} (hInv : Inv h) (hk : ∀ h2, Inv' h2 → LG Γ 1122 b x yy o i h2 (cn + 2, sn + 12)) : LG Γ 815 b x yy o i h (cn, sn) := by
  refine G.cse (cs' := (cn + 0, sn + 0)) rfl ?_
  refine G_aload_n dL_law_815 rfl ?_
  refine G_aload_n dL_law_816 rfl ?_
  refine G_iload dL_law_817 rfl ?_
  refine G_iconst (v := (1 : Int32)) dL_law_819 (by decide) ?_
  refine G_iadd dL_law_820 ?_
  refine G_sld hX hbl hi1 dL_law_821 ?_
  have hw := hP (xs (ix (i + (1 : Int32)))) h hInv
  refine G_callV (As := [.int (xs (ix (i + (1 : Int32))))]) (rb2 := (6, 0, 0)) (s_X10_share hs x (xs (ix (i + (1 : Int32)))) h _ hw) ca_X10_share w_1239 w_1240 (ci := 9) rfl (by decide) w_1238 (hIK h hInv).1 (Nat.le_of_ble_eq_true rfl) (Nat.le_of_ble_eq_true rfl) rfl (Nat.le_of_ble_eq_true rfl) (by show _ + _ ≤ 601024; simp only []; omega) (by show _ + _ ≤ 7293034; simp only []; omega) dL_law_822 rfl (fun v h1 hq => ?_)
  obtain ⟨r2, rfl, hw⟩ := hq
  obtain ⟨hy, hw⟩ := hw
  refine G.cse (cs' := (cn + 0, sn + 0)) rfl ?_
  show GZ _ _ _ _ _ _ _ 825 _ [.int r2] _ _
  refine G_aload_n dL_law_825 rfl ?_
  refine G_aload_n dL_law_826 rfl ?_
  refine G_iload dL_law_827 rfl ?_
  refine G_iconst (v := (1 : Int32)) dL_law_829 (by decide) ?_
  refine G_iadd dL_law_830 ?_
  refine G_sld hX hbl hi1 dL_law_831 ?_
  refine G_callV (As := [.int (xs (ix (i + (1 : Int32))))]) (rb2 := (7, 0, 0)) (s_X11_share hs yy (xs (ix (i + (1 : Int32)))) h1 _ hw) ca_X11_share w_2013 w_2014 (ci := 10) rfl (by decide) w_2012 hy (Nat.le_of_ble_eq_true rfl) (Nat.le_of_ble_eq_true rfl) rfl (Nat.le_of_ble_eq_true rfl) (by show _ + _ ≤ 601024; simp only []; omega) (by show _ + _ ≤ 7293034; simp only []; omega) dL_law_832 rfl (fun v h3 hq => ?_)
  obtain ⟨r4, rfl, hw⟩ := hq
  obtain ⟨rfl, hInv⟩ := hw
  refine G.cse (cs' := (cn + 0, sn + 0)) rfl ?_
  show GZ _ _ _ _ _ _ _ 835 _ [.int r2, .int r2] _ _
  refine G_icmp_eq (tgt := 1122) dL_law_835 rfl (fun _ => ?_) (fun q => absurd rfl q)
  refine G.less [some (.ref b), some (.ref x), some (.ref yy), some (.ref o), some (.int i), none, none] ⟨rfl, ⟨rfl, ⟨rfl, ⟨rfl, ⟨rfl, trivial⟩⟩⟩⟩⟩ ?_
  refine G.wid (cs' := (cn + 2, sn + 12)) (by simp only []; omega) (by simp only []; omega) ?_
  exact hk h3 hInv
set_option maxHeartbeats 4000000 in
set_option maxRecDepth 100000 in
theorem lc_given {Γ : GX} (hs : SF Γ) {N x yy o b L : Nat} {xs : Nat → Int32} {Inv Inv' : PH → Prop} (hX : va_X b L xs Γ.2.1 Γ.2.1.heap) (hbl : b < Γ.2.1.heap.size) (hIK : ∀ h, Inv h → hK h x = 9 ∧ hK h yy = 10) (hP : D_given Inv Inv' N x yy) {i : Int32} (hi1 : inb (i + (1 : Int32)) L) (hi2 : inb (i + (2 : Int32)) L) (hi3 : inb (i + (3 : Int32)) L) (hi4 : inb (i + (4 : Int32)) L) (hi5 : inb (i + (5 : Int32)) L) (hi6 : inb (i + (6 : Int32)) L) {cn sn : Nat} (hcn : cn + 2 ≤ 601024) (hsn : sn + 12 ≤ 7293034) {h : PH} (hInv : Inv h) (hk : ∀ h2, Inv' h2 → LG Γ 1122 b x yy o i h2 (cn + 2, sn + 12)) : LG Γ 840 b x yy o i h (cn, sn) := by
  refine G.cse (cs' := (cn + 0, sn + 0)) rfl ?_
  refine G_aload_n dL_law_840 rfl ?_
  refine G_aload_n dL_law_841 rfl ?_
  refine G_iload dL_law_842 rfl ?_
  refine G_iconst (v := (1 : Int32)) dL_law_844 (by decide) ?_
  refine G_iadd dL_law_845 ?_
  refine G_sld hX hbl hi1 dL_law_846 ?_
  refine G_aload_n dL_law_847 rfl ?_
  refine G_iload dL_law_848 rfl ?_
  refine G_iconst (v := (2 : Int32)) dL_law_850 (by decide) ?_
  refine G_iadd dL_law_851 ?_
  refine G_sld hX hbl hi2 dL_law_852 ?_
  have hw := hP (xs (ix (i + (1 : Int32)))) (xs (ix (i + (2 : Int32)))) h hInv
  refine G_callV (As := [.int (xs (ix (i + (1 : Int32)))), .int (xs (ix (i + (2 : Int32))))]) (rb2 := (2, 0, 0)) (s_X10_given hs x (xs (ix (i + (1 : Int32)))) (xs (ix (i + (2 : Int32)))) h _ hw) ca_X10_given w_1256 w_1257 (ci := 9) rfl (by decide) w_1255 (hIK h hInv).1 (Nat.le_of_ble_eq_true rfl) (Nat.le_of_ble_eq_true rfl) rfl (Nat.le_of_ble_eq_true rfl) (by show _ + _ ≤ 601024; simp only []; omega) (by show _ + _ ≤ 7293034; simp only []; omega) dL_law_853 rfl (fun v h1 hq => ?_)
  obtain ⟨r2, rfl, hw⟩ := hq
  obtain ⟨hy, hw⟩ := hw
  refine G.cse (cs' := (cn + 0, sn + 0)) rfl ?_
  show GZ _ _ _ _ _ _ _ 856 _ [.int r2] _ _
  refine G_aload_n dL_law_856 rfl ?_
  refine G_aload_n dL_law_857 rfl ?_
  refine G_iload dL_law_858 rfl ?_
  refine G_iconst (v := (1 : Int32)) dL_law_860 (by decide) ?_
  refine G_iadd dL_law_861 ?_
  refine G_sld hX hbl hi1 dL_law_862 ?_
  refine G_aload_n dL_law_863 rfl ?_
  refine G_iload dL_law_864 rfl ?_
  refine G_iconst (v := (2 : Int32)) dL_law_866 (by decide) ?_
  refine G_iadd dL_law_867 ?_
  refine G_sld hX hbl hi2 dL_law_868 ?_
  refine G_callV (As := [.int (xs (ix (i + (1 : Int32)))), .int (xs (ix (i + (2 : Int32))))]) (rb2 := (2, 0, 0)) (s_X11_given hs yy (xs (ix (i + (1 : Int32)))) (xs (ix (i + (2 : Int32)))) h1 _ hw) ca_X11_given w_2028 w_2029 (ci := 10) rfl (by decide) w_2027 hy (Nat.le_of_ble_eq_true rfl) (Nat.le_of_ble_eq_true rfl) rfl (Nat.le_of_ble_eq_true rfl) (by show _ + _ ≤ 601024; simp only []; omega) (by show _ + _ ≤ 7293034; simp only []; omega) dL_law_869 rfl (fun v h3 hq => ?_)
  obtain ⟨r4, rfl, hw⟩ := hq
  obtain ⟨rfl, hInv⟩ := hw
  refine G.cse (cs' := (cn + 0, sn + 0)) rfl ?_
  show GZ _ _ _ _ _ _ _ 872 _ [.int r2, .int r2] _ _
  refine G_icmp_eq (tgt := 1122) dL_law_872 rfl (fun _ => ?_) (fun q => absurd rfl q)
  refine G.less [some (.ref b), some (.ref x), some (.ref yy), some (.ref o), some (.int i), none, none] ⟨rfl, ⟨rfl, ⟨rfl, ⟨rfl, ⟨rfl, trivial⟩⟩⟩⟩⟩ ?_
  refine G.wid (cs' := (cn + 2, sn + 12)) (by simp only []; omega) (by simp only []; omega) ?_
  exact hk h3 hInv
set_option maxHeartbeats 4000000 in
set_option maxRecDepth 100000 in
theorem lc_years {Γ : GX} (hs : SF Γ) {N x yy o b L : Nat} {xs : Nat → Int32} {Inv Inv' : PH → Prop} (hX : va_X b L xs Γ.2.1 Γ.2.1.heap) (hbl : b < Γ.2.1.heap.size) (hIK : ∀ h, Inv h → hK h x = 9 ∧ hK h yy = 10) (hP : D_years Inv Inv' N x yy) {i : Int32} (hi1 : inb (i + (1 : Int32)) L) (hi2 : inb (i + (2 : Int32)) L) (hi3 : inb (i + (3 : Int32)) L) (hi4 : inb (i + (4 : Int32)) L) (hi5 : inb (i + (5 : Int32)) L) (hi6 : inb (i + (6 : Int32)) L) {cn sn : Nat} (hcn : cn + 2 ≤ 601024) (hsn : sn + 12 ≤ 7293034) {h : PH} (hInv : Inv h) (hk : ∀ h2, Inv' h2 → LG Γ 1122 b x yy o i h2 (cn + 2, sn + 12)) : LG Γ 995 b x yy o i h (cn, sn) := by
  refine G.cse (cs' := (cn + 0, sn + 0)) rfl ?_
  refine G_aload_n dL_law_995 rfl ?_
  refine G_aload_n dL_law_996 rfl ?_
  refine G_iload dL_law_997 rfl ?_
  refine G_iconst (v := (1 : Int32)) dL_law_999 (by decide) ?_
  refine G_iadd dL_law_1000 ?_
  refine G_sld hX hbl hi1 dL_law_1001 ?_
  refine G_aload_n dL_law_1002 rfl ?_
  refine G_iload dL_law_1003 rfl ?_
  refine G_iconst (v := (2 : Int32)) dL_law_1005 (by decide) ?_
  refine G_iadd dL_law_1006 ?_
  refine G_sld hX hbl hi2 dL_law_1007 ?_
  refine G_aload_n dL_law_1008 rfl ?_
  refine G_iload dL_law_1009 rfl ?_
  refine G_iconst (v := (3 : Int32)) dL_law_1011 (by decide) ?_
  refine G_iadd dL_law_1012 ?_
  refine G_sld hX hbl hi3 dL_law_1013 ?_
  have hw := hP (xs (ix (i + (1 : Int32)))) (xs (ix (i + (2 : Int32)))) (xs (ix (i + (3 : Int32)))) h hInv
  refine G_callV (As := [.int (xs (ix (i + (1 : Int32)))), .int (xs (ix (i + (2 : Int32)))), .int (xs (ix (i + (3 : Int32))))]) (rb2 := (7, 0, 0)) (s_X10_years hs x (xs (ix (i + (1 : Int32)))) (xs (ix (i + (2 : Int32)))) (xs (ix (i + (3 : Int32)))) h _ hw) ca_X10_years w_1260 w_1261 (ci := 9) rfl (by decide) w_1259 (hIK h hInv).1 (Nat.le_of_ble_eq_true rfl) (Nat.le_of_ble_eq_true rfl) rfl (Nat.le_of_ble_eq_true rfl) (by show _ + _ ≤ 601024; simp only []; omega) (by show _ + _ ≤ 7293034; simp only []; omega) dL_law_1014 rfl (fun v h1 hq => ?_)
  obtain ⟨r2, rfl, hw⟩ := hq
  obtain ⟨hy, hw⟩ := hw
  refine G.cse (cs' := (cn + 0, sn + 0)) rfl ?_
  show GZ _ _ _ _ _ _ _ 1017 _ [.int r2] _ _
  refine G_aload_n dL_law_1017 rfl ?_
  refine G_aload_n dL_law_1018 rfl ?_
  refine G_iload dL_law_1019 rfl ?_
  refine G_iconst (v := (1 : Int32)) dL_law_1021 (by decide) ?_
  refine G_iadd dL_law_1022 ?_
  refine G_sld hX hbl hi1 dL_law_1023 ?_
  refine G_aload_n dL_law_1024 rfl ?_
  refine G_iload dL_law_1025 rfl ?_
  refine G_iconst (v := (2 : Int32)) dL_law_1027 (by decide) ?_
  refine G_iadd dL_law_1028 ?_
  refine G_sld hX hbl hi2 dL_law_1029 ?_
  refine G_aload_n dL_law_1030 rfl ?_
  refine G_iload dL_law_1031 rfl ?_
  refine G_iconst (v := (3 : Int32)) dL_law_1033 (by decide) ?_
  refine G_iadd dL_law_1034 ?_
  refine G_sld hX hbl hi3 dL_law_1035 ?_
  refine G_callV (As := [.int (xs (ix (i + (1 : Int32)))), .int (xs (ix (i + (2 : Int32)))), .int (xs (ix (i + (3 : Int32))))]) (rb2 := (8, 0, 0)) (s_X11_years hs yy (xs (ix (i + (1 : Int32)))) (xs (ix (i + (2 : Int32)))) (xs (ix (i + (3 : Int32)))) h1 _ hw) ca_X11_years w_2048 w_2049 (ci := 10) rfl (by decide) w_2047 hy (Nat.le_of_ble_eq_true rfl) (Nat.le_of_ble_eq_true rfl) rfl (Nat.le_of_ble_eq_true rfl) (by show _ + _ ≤ 601024; simp only []; omega) (by show _ + _ ≤ 7293034; simp only []; omega) dL_law_1036 rfl (fun v h3 hq => ?_)
  obtain ⟨r4, rfl, hw⟩ := hq
  obtain ⟨rfl, hInv⟩ := hw
  refine G.cse (cs' := (cn + 0, sn + 0)) rfl ?_
  show GZ _ _ _ _ _ _ _ 1039 _ [.int r2, .int r2] _ _
  refine G_icmp_eq (tgt := 1122) dL_law_1039 rfl (fun _ => ?_) (fun q => absurd rfl q)
  refine G.less [some (.ref b), some (.ref x), some (.ref yy), some (.ref o), some (.int i), none, none] ⟨rfl, ⟨rfl, ⟨rfl, ⟨rfl, ⟨rfl, trivial⟩⟩⟩⟩⟩ ?_
  refine G.wid (cs' := (cn + 2, sn + 12)) (by simp only []; omega) (by simp only []; omega) ?_
  exact hk h3 hInv
set_option maxHeartbeats 4000000 in
set_option maxRecDepth 100000 in
theorem lc_mark {Γ : GX} (hs : SF Γ) {N x yy o b L : Nat} {xs : Nat → Int32} {Inv Inv' : PH → Prop} (hX : va_X b L xs Γ.2.1 Γ.2.1.heap) (hbl : b < Γ.2.1.heap.size) (hIK : ∀ h, Inv h → hK h x = 9 ∧ hK h yy = 10) (hP : D_mark Inv Inv' N x yy) {i : Int32} (hi1 : inb (i + (1 : Int32)) L) (hi2 : inb (i + (2 : Int32)) L) (hi3 : inb (i + (3 : Int32)) L) (hi4 : inb (i + (4 : Int32)) L) (hi5 : inb (i + (5 : Int32)) L) (hi6 : inb (i + (6 : Int32)) L) {cn sn : Nat} (hcn : cn + 2 ≤ 601024) (hsn : sn + 12 ≤ 7293034) {h : PH} (hInv : Inv h) (hk : ∀ h2, Inv' h2 → LG Γ 1122 b x yy o i h2 (cn + 2, sn + 12)) : LG Γ 1044 b x yy o i h (cn, sn) := by
  refine G.cse (cs' := (cn + 0, sn + 0)) rfl ?_
  refine G_aload_n dL_law_1044 rfl ?_
  refine G_aload_n dL_law_1045 rfl ?_
  refine G_iload dL_law_1046 rfl ?_
  refine G_iconst (v := (1 : Int32)) dL_law_1048 (by decide) ?_
  refine G_iadd dL_law_1049 ?_
  refine G_sld hX hbl hi1 dL_law_1050 ?_
  refine G_aload_n dL_law_1051 rfl ?_
  refine G_iload dL_law_1052 rfl ?_
  refine G_iconst (v := (2 : Int32)) dL_law_1054 (by decide) ?_
  refine G_iadd dL_law_1055 ?_
  refine G_sld hX hbl hi2 dL_law_1056 ?_
  refine G_if_eq (tgt := 1064) dL_law_1057 rfl (fun c1 => ?_) (fun c1 => ?_)
  · refine G_iconst (v := (0 : Int32)) dL_law_1064 (by decide) ?_
    have hw := hP (xs (ix (i + (1 : Int32)))) (0 : Int32) (Or.inl rfl) h hInv
    refine G_callV (As := [.int (xs (ix (i + (1 : Int32)))), .int (0 : Int32)]) (rb2 := (4, 0, 0)) (s_X10_mark hs x (xs (ix (i + (1 : Int32)))) (0 : Int32) h _ hw) ca_X10_mark w_1276 w_1277 (ci := 9) rfl (by decide) w_1275 (hIK h hInv).1 (Nat.le_of_ble_eq_true rfl) (Nat.le_of_ble_eq_true rfl) rfl (Nat.le_of_ble_eq_true rfl) (by show _ + _ ≤ 601024; simp only []; omega) (by show _ + _ ≤ 7293034; simp only []; omega) dL_law_1065 rfl (fun v h2 hq => ?_)
    obtain ⟨r3, rfl, hw⟩ := hq
    obtain ⟨hy, hw⟩ := hw
    refine G.cse (cs' := (cn + 0, sn + 0)) rfl ?_
    show GZ _ _ _ _ _ _ _ 1068 _ [.int r3] _ _
    refine G_aload_n dL_law_1068 rfl ?_
    refine G_aload_n dL_law_1069 rfl ?_
    refine G_iload dL_law_1070 rfl ?_
    refine G_iconst (v := (1 : Int32)) dL_law_1072 (by decide) ?_
    refine G_iadd dL_law_1073 ?_
    refine G_sld hX hbl hi1 dL_law_1074 ?_
    refine G_aload_n dL_law_1075 rfl ?_
    refine G_iload dL_law_1076 rfl ?_
    refine G_iconst (v := (2 : Int32)) dL_law_1078 (by decide) ?_
    refine G_iadd dL_law_1079 ?_
    refine G_sld hX hbl hi2 dL_law_1080 ?_
    refine G_if_eq (tgt := 1088) dL_law_1081 rfl (fun _ => ?_) (fun q => absurd c1 q)
    refine G_iconst (v := (0 : Int32)) dL_law_1088 (by decide) ?_
    refine G_callV (As := [.int (xs (ix (i + (1 : Int32)))), .int (0 : Int32)]) (rb2 := (2, 0, 0)) (s_X11_mark hs yy (xs (ix (i + (1 : Int32)))) (0 : Int32) h2 _ hw) ca_X11_mark w_2064 w_2065 (ci := 10) rfl (by decide) w_2063 hy (Nat.le_of_ble_eq_true rfl) (Nat.le_of_ble_eq_true rfl) rfl (Nat.le_of_ble_eq_true rfl) (by show _ + _ ≤ 601024; simp only []; omega) (by show _ + _ ≤ 7293034; simp only []; omega) dL_law_1089 rfl (fun v h5 hq => ?_)
    obtain ⟨r6, rfl, hw⟩ := hq
    obtain ⟨rfl, hInv⟩ := hw
    refine G.cse (cs' := (cn + 0, sn + 0)) rfl ?_
    show GZ _ _ _ _ _ _ _ 1092 _ [.int r3, .int r3] _ _
    refine G_icmp_eq (tgt := 1122) dL_law_1092 rfl (fun _ => ?_) (fun q => absurd rfl q)
    refine G.less [some (.ref b), some (.ref x), some (.ref yy), some (.ref o), some (.int i), none, none] ⟨rfl, ⟨rfl, ⟨rfl, ⟨rfl, ⟨rfl, trivial⟩⟩⟩⟩⟩ ?_
    refine G.wid (cs' := (cn + 2, sn + 12)) (by simp only []; omega) (by simp only []; omega) ?_
    exact hk h5 hInv
  · refine G_iconst (v := (1 : Int32)) dL_law_1060 (by decide) ?_
    refine G_goto (tgt := 1065) dL_law_1061 rfl ?_
    have hw := hP (xs (ix (i + (1 : Int32)))) (1 : Int32) (Or.inr rfl) h hInv
    refine G_callV (As := [.int (xs (ix (i + (1 : Int32)))), .int (1 : Int32)]) (rb2 := (4, 0, 0)) (s_X10_mark hs x (xs (ix (i + (1 : Int32)))) (1 : Int32) h _ hw) ca_X10_mark w_1276 w_1277 (ci := 9) rfl (by decide) w_1275 (hIK h hInv).1 (Nat.le_of_ble_eq_true rfl) (Nat.le_of_ble_eq_true rfl) rfl (Nat.le_of_ble_eq_true rfl) (by show _ + _ ≤ 601024; simp only []; omega) (by show _ + _ ≤ 7293034; simp only []; omega) dL_law_1065 rfl (fun v h7 hq => ?_)
    obtain ⟨r8, rfl, hw⟩ := hq
    obtain ⟨hy, hw⟩ := hw
    refine G.cse (cs' := (cn + 0, sn + 0)) rfl ?_
    show GZ _ _ _ _ _ _ _ 1068 _ [.int r8] _ _
    refine G_aload_n dL_law_1068 rfl ?_
    refine G_aload_n dL_law_1069 rfl ?_
    refine G_iload dL_law_1070 rfl ?_
    refine G_iconst (v := (1 : Int32)) dL_law_1072 (by decide) ?_
    refine G_iadd dL_law_1073 ?_
    refine G_sld hX hbl hi1 dL_law_1074 ?_
    refine G_aload_n dL_law_1075 rfl ?_
    refine G_iload dL_law_1076 rfl ?_
    refine G_iconst (v := (2 : Int32)) dL_law_1078 (by decide) ?_
    refine G_iadd dL_law_1079 ?_
    refine G_sld hX hbl hi2 dL_law_1080 ?_
    refine G_if_eq (tgt := 1088) dL_law_1081 rfl (fun q => absurd q c1) (fun _ => ?_)
    refine G_iconst (v := (1 : Int32)) dL_law_1084 (by decide) ?_
    refine G_goto (tgt := 1089) dL_law_1085 rfl ?_
    refine G_callV (As := [.int (xs (ix (i + (1 : Int32)))), .int (1 : Int32)]) (rb2 := (2, 0, 0)) (s_X11_mark hs yy (xs (ix (i + (1 : Int32)))) (1 : Int32) h7 _ hw) ca_X11_mark w_2064 w_2065 (ci := 10) rfl (by decide) w_2063 hy (Nat.le_of_ble_eq_true rfl) (Nat.le_of_ble_eq_true rfl) rfl (Nat.le_of_ble_eq_true rfl) (by show _ + _ ≤ 601024; simp only []; omega) (by show _ + _ ≤ 7293034; simp only []; omega) dL_law_1089 rfl (fun v h10 hq => ?_)
    obtain ⟨r11, rfl, hw⟩ := hq
    obtain ⟨rfl, hInv⟩ := hw
    refine G.cse (cs' := (cn + 0, sn + 0)) rfl ?_
    show GZ _ _ _ _ _ _ _ 1092 _ [.int r8, .int r8] _ _
    refine G_icmp_eq (tgt := 1122) dL_law_1092 rfl (fun _ => ?_) (fun q => absurd rfl q)
    refine G.less [some (.ref b), some (.ref x), some (.ref yy), some (.ref o), some (.int i), none, none] ⟨rfl, ⟨rfl, ⟨rfl, ⟨rfl, ⟨rfl, trivial⟩⟩⟩⟩⟩ ?_
    refine G.wid (cs' := (cn + 2, sn + 12)) (by simp only []; omega) (by simp only []; omega) ?_
    exact hk h10 hInv
set_option maxHeartbeats 4000000 in
set_option maxRecDepth 100000 in
theorem lc_count {Γ : GX} (hs : SF Γ) {N x yy o b L : Nat} {xs : Nat → Int32} {Inv Inv' : PH → Prop} (hX : va_X b L xs Γ.2.1 Γ.2.1.heap) (hbl : b < Γ.2.1.heap.size) (hIK : ∀ h, Inv h → hK h x = 9 ∧ hK h yy = 10) (hP : D_count Inv Inv' N x yy) {i : Int32} (hi1 : inb (i + (1 : Int32)) L) (hi2 : inb (i + (2 : Int32)) L) (hi3 : inb (i + (3 : Int32)) L) (hi4 : inb (i + (4 : Int32)) L) (hi5 : inb (i + (5 : Int32)) L) (hi6 : inb (i + (6 : Int32)) L) {cn sn : Nat} (hcn : cn + 2 ≤ 601024) (hsn : sn + 12 ≤ 7293034) {h : PH} (hInv : Inv h) (hk : ∀ h2, Inv' h2 → LG Γ 1122 b x yy o i h2 (cn + 2, sn + 12)) : LG Γ 1097 b x yy o i h (cn, sn) := by
  refine G.cse (cs' := (cn + 0, sn + 0)) rfl ?_
  refine G_aload_n dL_law_1097 rfl ?_
  refine G_aload_n dL_law_1098 rfl ?_
  refine G_iload dL_law_1099 rfl ?_
  refine G_iconst (v := (1 : Int32)) dL_law_1101 (by decide) ?_
  refine G_iadd dL_law_1102 ?_
  refine G_sld hX hbl hi1 dL_law_1103 ?_
  have hw := hP (xs (ix (i + (1 : Int32)))) h hInv
  refine G_callV (As := [.int (xs (ix (i + (1 : Int32))))]) (rb2 := (3, 0, 0)) (s_X10_count hs x (xs (ix (i + (1 : Int32)))) h _ hw) ca_X10_count w_1287 w_1288 (ci := 9) rfl (by decide) w_1286 (hIK h hInv).1 (Nat.le_of_ble_eq_true rfl) (Nat.le_of_ble_eq_true rfl) rfl (Nat.le_of_ble_eq_true rfl) (by show _ + _ ≤ 601024; simp only []; omega) (by show _ + _ ≤ 7293034; simp only []; omega) dL_law_1104 rfl (fun v h1 hq => ?_)
  obtain ⟨r2, rfl, hw⟩ := hq
  obtain ⟨hy, hw⟩ := hw
  refine G.cse (cs' := (cn + 0, sn + 0)) rfl ?_
  show GZ _ _ _ _ _ _ _ 1107 _ [.int r2] _ _
  refine G_aload_n dL_law_1107 rfl ?_
  refine G_aload_n dL_law_1108 rfl ?_
  refine G_iload dL_law_1109 rfl ?_
  refine G_iconst (v := (1 : Int32)) dL_law_1111 (by decide) ?_
  refine G_iadd dL_law_1112 ?_
  refine G_sld hX hbl hi1 dL_law_1113 ?_
  refine G_callV (As := [.int (xs (ix (i + (1 : Int32))))]) (rb2 := (3, 0, 0)) (s_X11_count hs yy (xs (ix (i + (1 : Int32)))) h1 _ hw) ca_X11_count w_2072 w_2073 (ci := 10) rfl (by decide) w_2071 hy (Nat.le_of_ble_eq_true rfl) (Nat.le_of_ble_eq_true rfl) rfl (Nat.le_of_ble_eq_true rfl) (by show _ + _ ≤ 601024; simp only []; omega) (by show _ + _ ≤ 7293034; simp only []; omega) dL_law_1114 rfl (fun v h3 hq => ?_)
  obtain ⟨r4, rfl, hw⟩ := hq
  obtain ⟨rfl, hInv⟩ := hw
  refine G.cse (cs' := (cn + 0, sn + 0)) rfl ?_
  show GZ _ _ _ _ _ _ _ 1117 _ [.int r2, .int r2] _ _
  refine G_icmp_eq (tgt := 1122) dL_law_1117 rfl (fun _ => ?_) (fun q => absurd rfl q)
  refine G.less [some (.ref b), some (.ref x), some (.ref yy), some (.ref o), some (.int i), none, none] ⟨rfl, ⟨rfl, ⟨rfl, ⟨rfl, ⟨rfl, trivial⟩⟩⟩⟩⟩ ?_
  refine G.wid (cs' := (cn + 2, sn + 12)) (by simp only []; omega) (by simp only []; omega) ?_
  exact hk h3 hInv
