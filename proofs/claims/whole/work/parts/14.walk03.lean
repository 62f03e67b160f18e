set_option maxHeartbeats 4000000 in
set_option maxRecDepth 100000 in
theorem s_X11_signAt {Γ : GX} (hs : SF Γ) {N : Nat} (l0 : Nat) (l1 : Int32) (h : PH) (Q : Int32 → PH → Prop) (hw : wp (f_X11_signAt N l0 l1 h) Q) : Spec Γ yX11_signAt cX11_signAt 2 (some .int) (1, 0, 0) [.ref l0, .int l1] h (q_i Q) := by
  refine Spec.of (by decide) (Nat.le_of_ble_eq_true rfl) [some (.ref l0), some (.int l1)] rfl ?_
  unfold f_X11_signAt at hw
  refine G_iload_n dX11_signAt_0 rfl ?_
  refine G_aload_n dX11_signAt_1 rfl ?_
  obtain ⟨c1, hw⟩ := wp_ck hw
  refine G_getI fl_X11_size w_1396 dX11_signAt_2 c1 ?_
  have hw := wp_if hw
  refine G_icmp_ge (tgt := 17) dX11_signAt_5 rfl (fun c2 => ?_) (fun c2 => ?_)
  · have hw := hw.1 c2
    refine G_iconst (v := (0 : Int32)) dX11_signAt_17 (by decide) ?_
    exact G_ireturn rfl dX11_signAt_18 ⟨_, rfl, wp_ret hw⟩
  · have hw := hw.2 c2
    refine G_aload_n dX11_signAt_8 rfl ?_
    refine G_getR fl_X11_tape w_1395 dX11_signAt_9 c1 ?_
    obtain ⟨a3, ea3, hw⟩ := wp_rq hw
    refine G.sure ea3 ?_
    refine G_iload_n dX11_signAt_12 rfl ?_
    obtain ⟨c4, hw⟩ := wp_ck hw
    obtain ⟨c5, hw⟩ := wp_ck hw
    refine G_iaload dX11_signAt_13 c4 c5 ?_
    refine G_goto (tgt := 18) dX11_signAt_14 rfl ?_
    exact G_ireturn rfl dX11_signAt_18 ⟨_, rfl, wp_ret hw⟩
set_option maxHeartbeats 4000000 in
set_option maxRecDepth 100000 in
theorem f_X11_nextToken_39_ok {Γ : GX} (hs : SF Γ) {N : Nat} {K_0 : Nat → PH → Option (Unit × PH)} (hK_0 : ∀ (l0 : Nat) (h : PH) (Q : Unit → PH → Prop), wp (K_0 l0 h) Q → G Γ yX11_nextToken cX11_nextToken 2 none (2, 0, 0) 0 [some (.ref l0), none] [] h (0, 0) (q_u Q)) (l0 : Nat) (h : PH) (Q : Unit → PH → Prop) (hw : wp (f_X11_nextToken_39 N K_0 l0 h) Q) : G Γ yX11_nextToken cX11_nextToken 2 none (2, 0, 0) 39 [some (.ref l0), none] [] h (0, 0) (q_u Q) := by
  unfold f_X11_nextToken_39 at hw
  refine G_aload_n dX11_nextToken_39 rfl ?_
  refine G_dup dX11_nextToken_40 rfl ?_
  obtain ⟨c1, hw⟩ := wp_ck hw
  refine G_getI fl_X11_place w_1397 dX11_nextToken_41 c1 ?_
  refine G_iconst (v := (1 : Int32)) dX11_nextToken_44 (by decide) ?_
  refine G_iadd dX11_nextToken_45 ?_
  refine G_putI fl_X11_place w_1397 dX11_nextToken_46 c1 ?_
  refine G.nmh fun h2 eh2 => ?_
  have hw := wp_bd hw h2 eh2
  refine G_goto (tgt := 0) dX11_nextToken_49 rfl ?_
  refine G.less [some (.ref l0), none] ⟨rfl, trivial⟩ ?_
  exact hK_0 _ h2 Q hw
set_option maxHeartbeats 4000000 in
set_option maxRecDepth 100000 in
theorem f_X11_nextToken_175_ok {Γ : GX} (hs : SF Γ) {N : Nat} {K_109 : Nat → PH → Option (Unit × PH)} (hK_109 : ∀ (l0 : Nat) (h : PH) (Q : Unit → PH → Prop), wp (K_109 l0 h) Q → G Γ yX11_nextToken cX11_nextToken 2 none (2, 0, 0) 109 [some (.ref l0), none] [] h (0, 0) (q_u Q)) (l0 : Nat) (h : PH) (Q : Unit → PH → Prop) (hw : wp (f_X11_nextToken_175 N K_109 l0 h) Q) : G Γ yX11_nextToken cX11_nextToken 2 none (2, 0, 0) 175 [some (.ref l0), none] [] h (0, 0) (q_u Q) := by
  unfold f_X11_nextToken_175 at hw
  refine G_aload_n dX11_nextToken_175 rfl ?_
  refine G_dup dX11_nextToken_176 rfl ?_
  obtain ⟨c1, hw⟩ := wp_ck hw
  refine G_getI fl_X11_place w_1397 dX11_nextToken_177 c1 ?_
  refine G_iconst (v := (1 : Int32)) dX11_nextToken_180 (by decide) ?_
  refine G_iadd dX11_nextToken_181 ?_
  refine G_putI fl_X11_place w_1397 dX11_nextToken_182 c1 ?_
  refine G.nmh fun h2 eh2 => ?_
  have hw := wp_bd hw h2 eh2
  refine G_goto (tgt := 109) dX11_nextToken_185 rfl ?_
  refine G.less [some (.ref l0), none] ⟨rfl, trivial⟩ ?_
  exact hK_109 _ h2 Q hw
set_option maxHeartbeats 4000000 in
set_option maxRecDepth 100000 in
theorem f_X11_nextToken_208_ok {Γ : GX} (hs : SF Γ) {N : Nat} (s0 : Int32) (s1 : Nat) (h : PH) (Q : Unit → PH → Prop) (hw : wp (f_X11_nextToken_208 N s0 s1 h) Q) : G Γ yX11_nextToken cX11_nextToken 2 none (2, 0, 0) 208 [none, none] [.int s0, .ref s1] h (0, 0) (q_u Q) := by
  unfold f_X11_nextToken_208 at hw
  obtain ⟨c1, hw⟩ := wp_ck hw
  refine G_putI fl_X11_token w_1399 dX11_nextToken_208 c1 ?_
  refine G.nmh fun h2 eh2 => ?_
  have hw := wp_bd hw h2 eh2
  exact G_vreturn rfl dX11_nextToken_211 ⟨rfl, wp_ret hw⟩
set_option maxHeartbeats 4000000 in
set_option maxRecDepth 100000 in
theorem f_X11_nextToken_188_ok {Γ : GX} (hs : SF Γ) {N : Nat} (l0 : Nat) (h : PH) (Q : Unit → PH → Prop) (hw : wp (f_X11_nextToken_188 N l0 h) Q) : G Γ yX11_nextToken cX11_nextToken 2 none (2, 0, 0) 188 [some (.ref l0), none] [] h (0, 0) (q_u Q) := by
  unfold f_X11_nextToken_188 at hw
  refine G_aload_n dX11_nextToken_188 rfl ?_
  refine G_aload_n dX11_nextToken_189 rfl ?_
  obtain ⟨c1, hw⟩ := wp_ck hw
  refine G_getI fl_X11_place w_1397 dX11_nextToken_190 c1 ?_
  refine G_aload_n dX11_nextToken_193 rfl ?_
  refine G_getI fl_X11_begin w_1398 dX11_nextToken_194 c1 ?_
  refine G_isub dX11_nextToken_197 ?_
  refine G_bipush (v := (8 : Int32)) dX11_nextToken_198 (by decide) ?_
  have hw := wp_if hw
  refine G_icmp_le (tgt := 207) dX11_nextToken_200 rfl (fun c2 => ?_) (fun c2 => ?_)
  · have hw := hw.1 c2
    refine G_iconst (v := (1 : Int32)) dX11_nextToken_207 (by decide) ?_
    refine G.less [none, none] trivial ?_
    exact f_X11_nextToken_208_ok hs _ _ h Q hw
  · have hw := hw.2 c2
    refine G_iconst (v := (4 : Int32)) dX11_nextToken_203 (by decide) ?_
    refine G_goto (tgt := 208) dX11_nextToken_204 rfl ?_
    refine G.less [none, none] trivial ?_
    exact f_X11_nextToken_208_ok hs _ _ h Q hw
set_option maxHeartbeats 4000000 in
set_option maxRecDepth 100000 in
theorem f_X11_nextToken_109_bok {Γ : GX} (hs : SF Γ) {N : Nat} {K_109 : Nat → PH → Option (Unit × PH)} (hK_109 : ∀ (l0 : Nat) (h : PH) (Q : Unit → PH → Prop), wp (K_109 l0 h) Q → G Γ yX11_nextToken cX11_nextToken 2 none (2, 0, 0) 109 [some (.ref l0), none] [] h (0, 0) (q_u Q)) (l0 : Nat) (h : PH) (Q : Unit → PH → Prop) (hw : wp (f_X11_nextToken_109_b N K_109 l0 h) Q) : G Γ yX11_nextToken cX11_nextToken 2 none (2, 0, 0) 109 [some (.ref l0), none] [] h (0, 0) (q_u Q) := by
  unfold f_X11_nextToken_109_b at hw
  refine G_aload_n dX11_nextToken_109 rfl ?_
  refine G_aload_n dX11_nextToken_110 rfl ?_
  obtain ⟨c1, hw⟩ := wp_ck hw
  refine G_getI fl_X11_place w_1397 dX11_nextToken_111 c1 ?_
  refine G_callV (As := [.int (hI h l0 4)]) (s_X11_signAt hs l0 (hI h l0 4) h _ (wp_cl hw)) ca_X11_signAt w_1620 w_47 (ci := 10) rfl (by decide) w_1618 c1 (Nat.le_of_ble_eq_true rfl) (Nat.le_of_ble_eq_true rfl) rfl (Nat.le_of_ble_eq_true rfl) (Nat.le_of_ble_eq_true rfl) (Nat.le_of_ble_eq_true rfl) dX11_nextToken_114 rfl (fun v h3 hq => ?_)
  obtain ⟨r2, rfl, hw⟩ := hq
  refine G.cse (cs' := (0, 0)) rfl ?_
  show GZ _ _ _ _ _ _ _ 117 _ (.int r2 :: []) _ _
  refine G_bipush (v := (97 : Int32)) dX11_nextToken_117 (by decide) ?_
  have hw := wp_if hw
  refine G_icmp_lt (tgt := 188) dX11_nextToken_119 rfl (fun c4 => ?_) (fun c4 => ?_)
  · have hw := hw.1 c4
    refine G.less [some (.ref l0), none] ⟨rfl, trivial⟩ ?_
    exact f_X11_nextToken_188_ok hs _ h3 Q hw
  · have hw := hw.2 c4
    refine G_aload_n dX11_nextToken_122 rfl ?_
    refine G_aload_n dX11_nextToken_123 rfl ?_
    obtain ⟨c5, hw⟩ := wp_ck hw
    refine G_getI fl_X11_place w_1397 dX11_nextToken_124 c5 ?_
    refine G_callV (As := [.int (hI h3 l0 4)]) (s_X11_signAt hs l0 (hI h3 l0 4) h3 _ (wp_cl hw)) ca_X11_signAt w_1620 w_47 (ci := 10) rfl (by decide) w_1618 c5 (Nat.le_of_ble_eq_true rfl) (Nat.le_of_ble_eq_true rfl) rfl (Nat.le_of_ble_eq_true rfl) (Nat.le_of_ble_eq_true rfl) (Nat.le_of_ble_eq_true rfl) dX11_nextToken_127 rfl (fun v h7 hq => ?_)
    obtain ⟨r6, rfl, hw⟩ := hq
    refine G.cse (cs' := (0, 0)) rfl ?_
    show GZ _ _ _ _ _ _ _ 130 _ (.int r6 :: []) _ _
    refine G_bipush (v := (122 : Int32)) dX11_nextToken_130 (by decide) ?_
    have hw := wp_if hw
    refine G_icmp_gt (tgt := 188) dX11_nextToken_132 rfl (fun c8 => ?_) (fun c8 => ?_)
    · have hw := hw.1 c8
      refine G.less [some (.ref l0), none] ⟨rfl, trivial⟩ ?_
      exact f_X11_nextToken_188_ok hs _ h7 Q hw
    · have hw := hw.2 c8
      refine G_aload_n dX11_nextToken_135 rfl ?_
      obtain ⟨c9, hw⟩ := wp_ck hw
      refine G_getI fl_X11_place w_1397 dX11_nextToken_136 c9 ?_
      refine G_aload_n dX11_nextToken_139 rfl ?_
      refine G_getI fl_X11_begin w_1398 dX11_nextToken_140 c9 ?_
      refine G_isub dX11_nextToken_143 ?_
      refine G_bipush (v := (8 : Int32)) dX11_nextToken_144 (by decide) ?_
      have hw := wp_if hw
      refine G_icmp_ge (tgt := 175) dX11_nextToken_146 rfl (fun c10 => ?_) (fun c10 => ?_)
      · have hw := hw.1 c10
        refine G.less [some (.ref l0), none] ⟨rfl, trivial⟩ ?_
        exact f_X11_nextToken_175_ok hs hK_109 _ h7 Q hw
      · have hw := hw.2 c10
        refine G_aload_n dX11_nextToken_149 rfl ?_
        refine G_aload_n dX11_nextToken_150 rfl ?_
        refine G_getJ fl_X11_word w_1400 dX11_nextToken_151 c9 ?_
        refine G_ldc2 (v := (27 : Int64)) dX11_nextToken_154 w_1622 ?_
        refine G_lmul dX11_nextToken_157 ?_
        refine G_aload_n dX11_nextToken_158 rfl ?_
        refine G_aload_n dX11_nextToken_159 rfl ?_
        refine G_getI fl_X11_place w_1397 dX11_nextToken_160 c9 ?_
        refine G_callV (As := [.int (hI h7 l0 4)]) (s_X11_signAt hs l0 (hI h7 l0 4) h7 _ (wp_cl hw)) ca_X11_signAt w_1620 w_47 (ci := 10) rfl (by decide) w_1618 c9 (Nat.le_of_ble_eq_true rfl) (Nat.le_of_ble_eq_true rfl) rfl (Nat.le_of_ble_eq_true rfl) (Nat.le_of_ble_eq_true rfl) (Nat.le_of_ble_eq_true rfl) dX11_nextToken_163 rfl (fun v h12 hq => ?_)
        obtain ⟨r11, rfl, hw⟩ := hq
        refine G.cse (cs' := (0, 0)) rfl ?_
        show GZ _ _ _ _ _ _ _ 166 _ (.int r11 :: [.long ((hJ h7 l0 7) * (27 : Int64)), .ref l0]) _ _
        refine G_i2l dX11_nextToken_166 ?_
        refine G_ladd dX11_nextToken_167 ?_
        refine G_ldc2 (v := (96 : Int64)) dX11_nextToken_168 w_1623 ?_
        refine G_lsub dX11_nextToken_171 ?_
        obtain ⟨c13, hw⟩ := wp_ck hw
        refine G_putJ fl_X11_word w_1400 dX11_nextToken_172 c13 ?_
        refine G.nmh fun h14 eh14 => ?_
        have hw := wp_bd hw h14 eh14
        refine G.less [some (.ref l0), none] ⟨rfl, trivial⟩ ?_
        exact f_X11_nextToken_175_ok hs hK_109 _ h14 Q hw
theorem f_X11_nextToken_109_ok {Γ : GX} (hs : SF Γ) {N : Nat} : ∀ (n : Nat) (l0 : Nat) (h : PH) (Q : Unit → PH → Prop), wp (f_X11_nextToken_109 N n l0 h) Q → G Γ yX11_nextToken cX11_nextToken 2 none (2, 0, 0) 109 [some (.ref l0), none] [] h (0, 0) (q_u Q)
  | 0, _, _, Q, hw => (wp_no hw).elim
  | n + 1, l0, h, Q, hw => f_X11_nextToken_109_bok (N := N) hs (f_X11_nextToken_109_ok (N := N) hs n) l0 h Q hw
set_option maxHeartbeats 4000000 in
set_option maxRecDepth 100000 in
theorem f_X11_nextToken_286_ok {Γ : GX} (hs : SF Γ) {N : Nat} {K_224 : Nat → PH → Option (Unit × PH)} (hK_224 : ∀ (l0 : Nat) (h : PH) (Q : Unit → PH → Prop), wp (K_224 l0 h) Q → G Γ yX11_nextToken cX11_nextToken 2 none (2, 0, 0) 224 [some (.ref l0), none] [] h (0, 0) (q_u Q)) (l0 : Nat) (h : PH) (Q : Unit → PH → Prop) (hw : wp (f_X11_nextToken_286 N K_224 l0 h) Q) : G Γ yX11_nextToken cX11_nextToken 2 none (2, 0, 0) 286 [some (.ref l0), none] [] h (0, 0) (q_u Q) := by
  unfold f_X11_nextToken_286 at hw
  refine G_aload_n dX11_nextToken_286 rfl ?_
  refine G_dup dX11_nextToken_287 rfl ?_
  obtain ⟨c1, hw⟩ := wp_ck hw
  refine G_getI fl_X11_place w_1397 dX11_nextToken_288 c1 ?_
  refine G_iconst (v := (1 : Int32)) dX11_nextToken_291 (by decide) ?_
  refine G_iadd dX11_nextToken_292 ?_
  refine G_putI fl_X11_place w_1397 dX11_nextToken_293 c1 ?_
  refine G.nmh fun h2 eh2 => ?_
  have hw := wp_bd hw h2 eh2
  refine G_goto (tgt := 224) dX11_nextToken_296 rfl ?_
  refine G.less [some (.ref l0), none] ⟨rfl, trivial⟩ ?_
  exact hK_224 _ h2 Q hw
set_option maxHeartbeats 4000000 in
set_option maxRecDepth 100000 in
theorem f_X11_nextToken_318_ok {Γ : GX} (hs : SF Γ) {N : Nat} (s0 : Int32) (s1 : Nat) (h : PH) (Q : Unit → PH → Prop) (hw : wp (f_X11_nextToken_318 N s0 s1 h) Q) : G Γ yX11_nextToken cX11_nextToken 2 none (2, 0, 0) 318 [none, none] [.int s0, .ref s1] h (0, 0) (q_u Q) := by
  unfold f_X11_nextToken_318 at hw
  obtain ⟨c1, hw⟩ := wp_ck hw
  refine G_putI fl_X11_token w_1399 dX11_nextToken_318 c1 ?_
  refine G.nmh fun h2 eh2 => ?_
  have hw := wp_bd hw h2 eh2
  exact G_vreturn rfl dX11_nextToken_321 ⟨rfl, wp_ret hw⟩
set_option maxHeartbeats 4000000 in
set_option maxRecDepth 100000 in
theorem f_X11_nextToken_299_ok {Γ : GX} (hs : SF Γ) {N : Nat} (l0 : Nat) (h : PH) (Q : Unit → PH → Prop) (hw : wp (f_X11_nextToken_299 N l0 h) Q) : G Γ yX11_nextToken cX11_nextToken 2 none (2, 0, 0) 299 [some (.ref l0), none] [] h (0, 0) (q_u Q) := by
  unfold f_X11_nextToken_299 at hw
  refine G_aload_n dX11_nextToken_299 rfl ?_
  refine G_aload_n dX11_nextToken_300 rfl ?_
  obtain ⟨c1, hw⟩ := wp_ck hw
  refine G_getI fl_X11_place w_1397 dX11_nextToken_301 c1 ?_
  refine G_aload_n dX11_nextToken_304 rfl ?_
  refine G_getI fl_X11_begin w_1398 dX11_nextToken_305 c1 ?_
  refine G_isub dX11_nextToken_308 ?_
  refine G_iconst (v := (4 : Int32)) dX11_nextToken_309 (by decide) ?_
  have hw := wp_if hw
  refine G_icmp_le (tgt := 317) dX11_nextToken_310 rfl (fun c2 => ?_) (fun c2 => ?_)
  · have hw := hw.1 c2
    refine G_iconst (v := (2 : Int32)) dX11_nextToken_317 (by decide) ?_
    refine G.less [none, none] trivial ?_
    exact f_X11_nextToken_318_ok hs _ _ h Q hw
  · have hw := hw.2 c2
    refine G_iconst (v := (4 : Int32)) dX11_nextToken_313 (by decide) ?_
    refine G_goto (tgt := 318) dX11_nextToken_314 rfl ?_
    refine G.less [none, none] trivial ?_
    exact f_X11_nextToken_318_ok hs _ _ h Q hw
set_option maxHeartbeats 4000000 in
set_option maxRecDepth 100000 in
theorem f_X11_nextToken_224_bok {Γ : GX} (hs : SF Γ) {N : Nat} {K_224 : Nat → PH → Option (Unit × PH)} (hK_224 : ∀ (l0 : Nat) (h : PH) (Q : Unit → PH → Prop), wp (K_224 l0 h) Q → G Γ yX11_nextToken cX11_nextToken 2 none (2, 0, 0) 224 [some (.ref l0), none] [] h (0, 0) (q_u Q)) (l0 : Nat) (h : PH) (Q : Unit → PH → Prop) (hw : wp (f_X11_nextToken_224_b N K_224 l0 h) Q) : G Γ yX11_nextToken cX11_nextToken 2 none (2, 0, 0) 224 [some (.ref l0), none] [] h (0, 0) (q_u Q) := by
  unfold f_X11_nextToken_224_b at hw
  refine G_aload_n dX11_nextToken_224 rfl ?_
  refine G_aload_n dX11_nextToken_225 rfl ?_
  obtain ⟨c1, hw⟩ := wp_ck hw
  refine G_getI fl_X11_place w_1397 dX11_nextToken_226 c1 ?_
  refine G_callV (As := [.int (hI h l0 4)]) (s_X11_signAt hs l0 (hI h l0 4) h _ (wp_cl hw)) ca_X11_signAt w_1620 w_47 (ci := 10) rfl (by decide) w_1618 c1 (Nat.le_of_ble_eq_true rfl) (Nat.le_of_ble_eq_true rfl) rfl (Nat.le_of_ble_eq_true rfl) (Nat.le_of_ble_eq_true rfl) (Nat.le_of_ble_eq_true rfl) dX11_nextToken_229 rfl (fun v h3 hq => ?_)
  obtain ⟨r2, rfl, hw⟩ := hq
  refine G.cse (cs' := (0, 0)) rfl ?_
  show GZ _ _ _ _ _ _ _ 232 _ (.int r2 :: []) _ _
  refine G_bipush (v := (48 : Int32)) dX11_nextToken_232 (by decide) ?_
  have hw := wp_if hw
  refine G_icmp_lt (tgt := 299) dX11_nextToken_234 rfl (fun c4 => ?_) (fun c4 => ?_)
  · have hw := hw.1 c4
    refine G.less [some (.ref l0), none] ⟨rfl, trivial⟩ ?_
    exact f_X11_nextToken_299_ok hs _ h3 Q hw
  · have hw := hw.2 c4
    refine G_aload_n dX11_nextToken_237 rfl ?_
    refine G_aload_n dX11_nextToken_238 rfl ?_
    obtain ⟨c5, hw⟩ := wp_ck hw
    refine G_getI fl_X11_place w_1397 dX11_nextToken_239 c5 ?_
    refine G_callV (As := [.int (hI h3 l0 4)]) (s_X11_signAt hs l0 (hI h3 l0 4) h3 _ (wp_cl hw)) ca_X11_signAt w_1620 w_47 (ci := 10) rfl (by decide) w_1618 c5 (Nat.le_of_ble_eq_true rfl) (Nat.le_of_ble_eq_true rfl) rfl (Nat.le_of_ble_eq_true rfl) (Nat.le_of_ble_eq_true rfl) (Nat.le_of_ble_eq_true rfl) dX11_nextToken_242 rfl (fun v h7 hq => ?_)
    obtain ⟨r6, rfl, hw⟩ := hq
    refine G.cse (cs' := (0, 0)) rfl ?_
    show GZ _ _ _ _ _ _ _ 245 _ (.int r6 :: []) _ _
    refine G_bipush (v := (57 : Int32)) dX11_nextToken_245 (by decide) ?_
    have hw := wp_if hw
    refine G_icmp_gt (tgt := 299) dX11_nextToken_247 rfl (fun c8 => ?_) (fun c8 => ?_)
    · have hw := hw.1 c8
      refine G.less [some (.ref l0), none] ⟨rfl, trivial⟩ ?_
      exact f_X11_nextToken_299_ok hs _ h7 Q hw
    · have hw := hw.2 c8
      refine G_aload_n dX11_nextToken_250 rfl ?_
      obtain ⟨c9, hw⟩ := wp_ck hw
      refine G_getI fl_X11_place w_1397 dX11_nextToken_251 c9 ?_
      refine G_aload_n dX11_nextToken_254 rfl ?_
      refine G_getI fl_X11_begin w_1398 dX11_nextToken_255 c9 ?_
      refine G_isub dX11_nextToken_258 ?_
      refine G_iconst (v := (4 : Int32)) dX11_nextToken_259 (by decide) ?_
      have hw := wp_if hw
      refine G_icmp_ge (tgt := 286) dX11_nextToken_260 rfl (fun c10 => ?_) (fun c10 => ?_)
      · have hw := hw.1 c10
        refine G.less [some (.ref l0), none] ⟨rfl, trivial⟩ ?_
        exact f_X11_nextToken_286_ok hs hK_224 _ h7 Q hw
      · have hw := hw.2 c10
        refine G_aload_n dX11_nextToken_263 rfl ?_
        refine G_aload_n dX11_nextToken_264 rfl ?_
        refine G_getI fl_X11_told w_1401 dX11_nextToken_265 c9 ?_
        refine G_bipush (v := (10 : Int32)) dX11_nextToken_268 (by decide) ?_
        refine G_imul dX11_nextToken_270 ?_
        refine G_aload_n dX11_nextToken_271 rfl ?_
        refine G_aload_n dX11_nextToken_272 rfl ?_
        refine G_getI fl_X11_place w_1397 dX11_nextToken_273 c9 ?_
        refine G_callV (As := [.int (hI h7 l0 4)]) (s_X11_signAt hs l0 (hI h7 l0 4) h7 _ (wp_cl hw)) ca_X11_signAt w_1620 w_47 (ci := 10) rfl (by decide) w_1618 c9 (Nat.le_of_ble_eq_true rfl) (Nat.le_of_ble_eq_true rfl) rfl (Nat.le_of_ble_eq_true rfl) (Nat.le_of_ble_eq_true rfl) (Nat.le_of_ble_eq_true rfl) dX11_nextToken_276 rfl (fun v h12 hq => ?_)
        obtain ⟨r11, rfl, hw⟩ := hq
        refine G.cse (cs' := (0, 0)) rfl ?_
        show GZ _ _ _ _ _ _ _ 279 _ (.int r11 :: [.int ((hI h7 l0 8) * (10 : Int32)), .ref l0]) _ _
        refine G_iadd dX11_nextToken_279 ?_
        refine G_bipush (v := (48 : Int32)) dX11_nextToken_280 (by decide) ?_
        refine G_isub dX11_nextToken_282 ?_
        obtain ⟨c13, hw⟩ := wp_ck hw
        refine G_putI fl_X11_told w_1401 dX11_nextToken_283 c13 ?_
        refine G.nmh fun h14 eh14 => ?_
        have hw := wp_bd hw h14 eh14
        refine G.less [some (.ref l0), none] ⟨rfl, trivial⟩ ?_
        exact f_X11_nextToken_286_ok hs hK_224 _ h14 Q hw
theorem f_X11_nextToken_224_ok {Γ : GX} (hs : SF Γ) {N : Nat} : ∀ (n : Nat) (l0 : Nat) (h : PH) (Q : Unit → PH → Prop), wp (f_X11_nextToken_224 N n l0 h) Q → G Γ yX11_nextToken cX11_nextToken 2 none (2, 0, 0) 224 [some (.ref l0), none] [] h (0, 0) (q_u Q)
  | 0, _, _, Q, hw => (wp_no hw).elim
  | n + 1, l0, h, Q, hw => f_X11_nextToken_224_bok (N := N) hs (f_X11_nextToken_224_ok (N := N) hs n) l0 h Q hw
set_option maxHeartbeats 4000000 in
set_option maxRecDepth 100000 in
theorem f_X11_nextToken_368_ok {Γ : GX} (hs : SF Γ) {N : Nat} (s0 : Int32) (s1 : Nat) (h : PH) (Q : Unit → PH → Prop) (hw : wp (f_X11_nextToken_368 N s0 s1 h) Q) : G Γ yX11_nextToken cX11_nextToken 2 none (2, 0, 0) 368 [none, none] [.int s0, .ref s1] h (0, 0) (q_u Q) := by
  unfold f_X11_nextToken_368 at hw
  obtain ⟨c1, hw⟩ := wp_ck hw
  refine G_putI fl_X11_token w_1399 dX11_nextToken_368 c1 ?_
  refine G.nmh fun h2 eh2 => ?_
  have hw := wp_bd hw h2 eh2
  exact G_vreturn rfl dX11_nextToken_371 ⟨rfl, wp_ret hw⟩
set_option maxHeartbeats 4000000 in
set_option maxRecDepth 100000 in
theorem f_X11_nextToken_363_ok {Γ : GX} (hs : SF Γ) {N : Nat} (s0 : Nat) (h : PH) (Q : Unit → PH → Prop) (hw : wp (f_X11_nextToken_363 N s0 h) Q) : G Γ yX11_nextToken cX11_nextToken 2 none (2, 0, 0) 363 [none, none] [.ref s0] h (0, 0) (q_u Q) := by
  unfold f_X11_nextToken_363 at hw
  refine G_iconst (v := (3 : Int32)) dX11_nextToken_363 (by decide) ?_
  refine G_goto (tgt := 368) dX11_nextToken_364 rfl ?_
  refine G.less [none, none] trivial ?_
  exact f_X11_nextToken_368_ok hs _ _ h Q hw
set_option maxHeartbeats 4000000 in
set_option maxRecDepth 100000 in
theorem f_X11_nextToken_367_ok {Γ : GX} (hs : SF Γ) {N : Nat} (s0 : Nat) (h : PH) (Q : Unit → PH → Prop) (hw : wp (f_X11_nextToken_367 N s0 h) Q) : G Γ yX11_nextToken cX11_nextToken 2 none (2, 0, 0) 367 [none, none] [.ref s0] h (0, 0) (q_u Q) := by
  unfold f_X11_nextToken_367 at hw
  refine G_iconst (v := (4 : Int32)) dX11_nextToken_367 (by decide) ?_
  refine G.less [none, none] trivial ?_
  exact f_X11_nextToken_368_ok hs _ _ h Q hw
set_option maxHeartbeats 4000000 in
set_option maxRecDepth 100000 in
theorem f_X11_nextToken_345_ok {Γ : GX} (hs : SF Γ) {N : Nat} (s0 : Nat) (l1 : Int32) (h : PH) (Q : Unit → PH → Prop) (hw : wp (f_X11_nextToken_345 N s0 l1 h) Q) : G Γ yX11_nextToken cX11_nextToken 2 none (2, 0, 0) 345 [none, some (.int l1)] [.ref s0] h (0, 0) (q_u Q) := by
  unfold f_X11_nextToken_345 at hw
  refine G_iload_n dX11_nextToken_345 rfl ?_
  refine G_bipush (v := (45 : Int32)) dX11_nextToken_346 (by decide) ?_
  have hw := wp_if hw
  refine G_icmp_eq (tgt := 363) dX11_nextToken_348 rfl (fun c1 => ?_) (fun c1 => ?_)
  · have hw := hw.1 c1
    refine G.less [none, none] trivial ?_
    exact f_X11_nextToken_363_ok hs _ h Q hw
  · have hw := hw.2 c1
    refine G_iload_n dX11_nextToken_351 rfl ?_
    refine G_bipush (v := (59 : Int32)) dX11_nextToken_352 (by decide) ?_
    have hw := wp_if hw
    refine G_icmp_lt (tgt := 367) dX11_nextToken_354 rfl (fun c2 => ?_) (fun c2 => ?_)
    · have hw := hw.1 c2
      refine G.less [none, none] trivial ?_
      exact f_X11_nextToken_367_ok hs _ h Q hw
    · have hw := hw.2 c2
      refine G_iload_n dX11_nextToken_357 rfl ?_
      refine G_bipush (v := (61 : Int32)) dX11_nextToken_358 (by decide) ?_
      have hw := wp_if hw
      refine G_icmp_gt (tgt := 367) dX11_nextToken_360 rfl (fun c3 => ?_) (fun c3 => ?_)
      · have hw := hw.1 c3
        refine G.less [none, none] trivial ?_
        exact f_X11_nextToken_367_ok hs _ h Q hw
      · have hw := hw.2 c3
        refine G.less [none, none] trivial ?_
        exact f_X11_nextToken_363_ok hs _ h Q hw
set_option maxHeartbeats 4000000 in
set_option maxRecDepth 100000 in
theorem f_X11_nextToken_322_ok {Γ : GX} (hs : SF Γ) {N : Nat} (l0 : Nat) (l1 : Int32) (h : PH) (Q : Unit → PH → Prop) (hw : wp (f_X11_nextToken_322 N l0 l1 h) Q) : G Γ yX11_nextToken cX11_nextToken 2 none (2, 0, 0) 322 [some (.ref l0), some (.int l1)] [] h (0, 0) (q_u Q) := by
  unfold f_X11_nextToken_322 at hw
  refine G_aload_n dX11_nextToken_322 rfl ?_
  refine G_dup dX11_nextToken_323 rfl ?_
  obtain ⟨c1, hw⟩ := wp_ck hw
  refine G_getI fl_X11_place w_1397 dX11_nextToken_324 c1 ?_
  refine G_iconst (v := (1 : Int32)) dX11_nextToken_327 (by decide) ?_
  refine G_iadd dX11_nextToken_328 ?_
  refine G_putI fl_X11_place w_1397 dX11_nextToken_329 c1 ?_
  refine G.nmh fun h2 eh2 => ?_
  have hw := wp_bd hw h2 eh2
  refine G_aload_n dX11_nextToken_332 rfl ?_
  refine G_iload_n dX11_nextToken_333 rfl ?_
  refine G_bipush (v := (40 : Int32)) dX11_nextToken_334 (by decide) ?_
  have hw := wp_if hw
  refine G_icmp_lt (tgt := 345) dX11_nextToken_336 rfl (fun c3 => ?_) (fun c3 => ?_)
  · have hw := hw.1 c3
    refine G.less [none, some (.int l1)] ⟨rfl, trivial⟩ ?_
    exact f_X11_nextToken_345_ok hs _ _ h2 Q hw
  · have hw := hw.2 c3
    refine G_iload_n dX11_nextToken_339 rfl ?_
    refine G_bipush (v := (43 : Int32)) dX11_nextToken_340 (by decide) ?_
    have hw := wp_if hw
    refine G_icmp_le (tgt := 363) dX11_nextToken_342 rfl (fun c4 => ?_) (fun c4 => ?_)
    · have hw := hw.1 c4
      refine G.less [none, none] trivial ?_
      exact f_X11_nextToken_363_ok hs _ h2 Q hw
    · have hw := hw.2 c4
      refine G.less [none, some (.int l1)] ⟨rfl, trivial⟩ ?_
      exact f_X11_nextToken_345_ok hs _ _ h2 Q hw
set_option maxHeartbeats 4000000 in
set_option maxRecDepth 100000 in
theorem f_X11_nextToken_212_ok {Γ : GX} (hs : SF Γ) {N : Nat} (l0 : Nat) (l1 : Int32) (h : PH) (Q : Unit → PH → Prop) (hw : wp (f_X11_nextToken_212 N l0 l1 h) Q) : G Γ yX11_nextToken cX11_nextToken 2 none (2, 0, 0) 212 [some (.ref l0), some (.int l1)] [] h (0, 0) (q_u Q) := by
  unfold f_X11_nextToken_212 at hw
  refine G_iload_n dX11_nextToken_212 rfl ?_
  refine G_bipush (v := (48 : Int32)) dX11_nextToken_213 (by decide) ?_
  have hw := wp_if hw
  refine G_icmp_lt (tgt := 322) dX11_nextToken_215 rfl (fun c1 => ?_) (fun c1 => ?_)
  · have hw := hw.1 c1
    refine G.less [some (.ref l0), some (.int l1)] ⟨rfl, ⟨rfl, trivial⟩⟩ ?_
    exact f_X11_nextToken_322_ok hs _ _ h Q hw
  · have hw := hw.2 c1
    refine G_iload_n dX11_nextToken_218 rfl ?_
    refine G_bipush (v := (57 : Int32)) dX11_nextToken_219 (by decide) ?_
    have hw := wp_if hw
    refine G_icmp_gt (tgt := 322) dX11_nextToken_221 rfl (fun c2 => ?_) (fun c2 => ?_)
    · have hw := hw.1 c2
      refine G.less [some (.ref l0), some (.int l1)] ⟨rfl, ⟨rfl, trivial⟩⟩ ?_
      exact f_X11_nextToken_322_ok hs _ _ h Q hw
    · have hw := hw.2 c2
      refine G.less [some (.ref l0), none] ⟨rfl, trivial⟩ ?_
      exact f_X11_nextToken_224_ok hs N _ h Q hw
set_option maxHeartbeats 4000000 in
set_option maxRecDepth 100000 in
theorem f_X11_nextToken_52_ok {Γ : GX} (hs : SF Γ) {N : Nat} (l0 : Nat) (h : PH) (Q : Unit → PH → Prop) (hw : wp (f_X11_nextToken_52 N l0 h) Q) : G Γ yX11_nextToken cX11_nextToken 2 none (2, 0, 0) 52 [some (.ref l0), none] [] h (0, 0) (q_u Q) := by
  unfold f_X11_nextToken_52 at hw
  refine G_aload_n dX11_nextToken_52 rfl ?_
  refine G_aload_n dX11_nextToken_53 rfl ?_
  obtain ⟨c1, hw⟩ := wp_ck hw
  refine G_getI fl_X11_place w_1397 dX11_nextToken_54 c1 ?_
  refine G_putI fl_X11_begin w_1398 dX11_nextToken_57 c1 ?_
  refine G.nmh fun h2 eh2 => ?_
  have hw := wp_bd hw h2 eh2
  refine G_aload_n dX11_nextToken_60 rfl ?_
  refine G_lconst (v := (0 : Int64)) dX11_nextToken_61 (by decide) ?_
  obtain ⟨c3, hw⟩ := wp_ck hw
  refine G_putJ fl_X11_word w_1400 dX11_nextToken_62 c3 ?_
  refine G.nmh fun h4 eh4 => ?_
  have hw := wp_bd hw h4 eh4
  refine G_aload_n dX11_nextToken_65 rfl ?_
  refine G_iconst (v := (0 : Int32)) dX11_nextToken_66 (by decide) ?_
  obtain ⟨c5, hw⟩ := wp_ck hw
  refine G_putI fl_X11_told w_1401 dX11_nextToken_67 c5 ?_
  refine G.nmh fun h6 eh6 => ?_
  have hw := wp_bd hw h6 eh6
  refine G_aload_n dX11_nextToken_70 rfl ?_
  obtain ⟨c7, hw⟩ := wp_ck hw
  refine G_getI fl_X11_place w_1397 dX11_nextToken_71 c7 ?_
  refine G_aload_n dX11_nextToken_74 rfl ?_
  refine G_getI fl_X11_size w_1396 dX11_nextToken_75 c7 ?_
  have hw := wp_if hw
  refine G_icmp_ne (tgt := 87) dX11_nextToken_78 rfl (fun c8 => ?_) (fun c8 => ?_)
  · have hw := hw.2 c8
    refine G_aload_n dX11_nextToken_87 rfl ?_
    refine G_getR fl_X11_tape w_1395 dX11_nextToken_88 c7 ?_
    obtain ⟨a9, ea9, hw⟩ := wp_rq hw
    refine G.sure ea9 ?_
    refine G_aload_n dX11_nextToken_91 rfl ?_
    refine G_getI fl_X11_place w_1397 dX11_nextToken_92 c7 ?_
    obtain ⟨c10, hw⟩ := wp_ck hw
    obtain ⟨c11, hw⟩ := wp_ck hw
    refine G_iaload dX11_nextToken_95 c10 c11 ?_
    refine G.topi fun v12 ev12 => ?_
    have hw := wp_bd hw v12 ev12
    refine G_istore_n (lv' := [some (.ref l0), some (.int v12)]) dX11_nextToken_96 (Nat.le_of_ble_eq_true rfl) rfl ?_
    refine G_iload_n dX11_nextToken_97 rfl ?_
    refine G_bipush (v := (97 : Int32)) dX11_nextToken_98 (by decide) ?_
    have hw := wp_if hw
    refine G_icmp_lt (tgt := 212) dX11_nextToken_100 rfl (fun c13 => ?_) (fun c13 => ?_)
    · have hw := hw.1 c13
      refine G.less [some (.ref l0), some (.int v12)] ⟨rfl, ⟨rfl, trivial⟩⟩ ?_
      exact f_X11_nextToken_212_ok hs _ _ h6 Q hw
    · have hw := hw.2 c13
      refine G_iload_n dX11_nextToken_103 rfl ?_
      refine G_bipush (v := (122 : Int32)) dX11_nextToken_104 (by decide) ?_
      have hw := wp_if hw
      refine G_icmp_gt (tgt := 212) dX11_nextToken_106 rfl (fun c14 => ?_) (fun c14 => ?_)
      · have hw := hw.1 c14
        refine G.less [some (.ref l0), some (.int v12)] ⟨rfl, ⟨rfl, trivial⟩⟩ ?_
        exact f_X11_nextToken_212_ok hs _ _ h6 Q hw
      · have hw := hw.2 c14
        refine G.less [some (.ref l0), none] ⟨rfl, trivial⟩ ?_
        exact f_X11_nextToken_109_ok hs N _ h6 Q hw
  · have hw := hw.1 c8
    refine G_aload_n dX11_nextToken_81 rfl ?_
    refine G_iconst (v := (0 : Int32)) dX11_nextToken_82 (by decide) ?_
    refine G_putI fl_X11_token w_1399 dX11_nextToken_83 c7 ?_
    refine G.nmh fun h15 eh15 => ?_
    have hw := wp_bd hw h15 eh15
    exact G_vreturn rfl dX11_nextToken_86 ⟨rfl, wp_ret hw⟩
set_option maxHeartbeats 4000000 in
set_option maxRecDepth 100000 in
theorem f_X11_nextToken_0_bok {Γ : GX} (hs : SF Γ) {N : Nat} {K_0 : Nat → PH → Option (Unit × PH)} (hK_0 : ∀ (l0 : Nat) (h : PH) (Q : Unit → PH → Prop), wp (K_0 l0 h) Q → G Γ yX11_nextToken cX11_nextToken 2 none (2, 0, 0) 0 [some (.ref l0), none] [] h (0, 0) (q_u Q)) (l0 : Nat) (h : PH) (Q : Unit → PH → Prop) (hw : wp (f_X11_nextToken_0_b N K_0 l0 h) Q) : G Γ yX11_nextToken cX11_nextToken 2 none (2, 0, 0) 0 [some (.ref l0), none] [] h (0, 0) (q_u Q) := by
  unfold f_X11_nextToken_0_b at hw
  refine G_aload_n dX11_nextToken_0 rfl ?_
  obtain ⟨c1, hw⟩ := wp_ck hw
  refine G_getI fl_X11_place w_1397 dX11_nextToken_1 c1 ?_
  refine G_aload_n dX11_nextToken_4 rfl ?_
  refine G_getI fl_X11_size w_1396 dX11_nextToken_5 c1 ?_
  have hw := wp_if hw
  refine G_icmp_ge (tgt := 52) dX11_nextToken_8 rfl (fun c2 => ?_) (fun c2 => ?_)
  · have hw := hw.1 c2
    refine G.less [some (.ref l0), none] ⟨rfl, trivial⟩ ?_
    exact f_X11_nextToken_52_ok hs _ h Q hw
  · have hw := hw.2 c2
    refine G_aload_n dX11_nextToken_11 rfl ?_
    refine G_getR fl_X11_tape w_1395 dX11_nextToken_12 c1 ?_
    obtain ⟨a3, ea3, hw⟩ := wp_rq hw
    refine G.sure ea3 ?_
    refine G_aload_n dX11_nextToken_15 rfl ?_
    refine G_getI fl_X11_place w_1397 dX11_nextToken_16 c1 ?_
    obtain ⟨c4, hw⟩ := wp_ck hw
    obtain ⟨c5, hw⟩ := wp_ck hw
    refine G_iaload dX11_nextToken_19 c4 c5 ?_
    refine G_bipush (v := (32 : Int32)) dX11_nextToken_20 (by decide) ?_
    have hw := wp_if hw
    refine G_icmp_eq (tgt := 39) dX11_nextToken_22 rfl (fun c6 => ?_) (fun c6 => ?_)
    · have hw := hw.1 c6
      refine G.less [some (.ref l0), none] ⟨rfl, trivial⟩ ?_
      exact f_X11_nextToken_39_ok hs hK_0 _ h Q hw
    · have hw := hw.2 c6
      refine G_aload_n dX11_nextToken_25 rfl ?_
      refine G_getR fl_X11_tape w_1395 dX11_nextToken_26 c1 ?_
      obtain ⟨a7, ea7, hw⟩ := wp_rq hw
      refine G.sure ea7 ?_
      refine G_aload_n dX11_nextToken_29 rfl ?_
      refine G_getI fl_X11_place w_1397 dX11_nextToken_30 c1 ?_
      obtain ⟨c8, hw⟩ := wp_ck hw
      obtain ⟨c9, hw⟩ := wp_ck hw
      refine G_iaload dX11_nextToken_33 c8 c9 ?_
      refine G_bipush (v := (10 : Int32)) dX11_nextToken_34 (by decide) ?_
      have hw := wp_if hw
      refine G_icmp_ne (tgt := 52) dX11_nextToken_36 rfl (fun c10 => ?_) (fun c10 => ?_)
      · have hw := hw.2 c10
        refine G.less [some (.ref l0), none] ⟨rfl, trivial⟩ ?_
        exact f_X11_nextToken_52_ok hs _ h Q hw
      · have hw := hw.1 c10
        refine G.less [some (.ref l0), none] ⟨rfl, trivial⟩ ?_
        exact f_X11_nextToken_39_ok hs hK_0 _ h Q hw
theorem f_X11_nextToken_0_ok {Γ : GX} (hs : SF Γ) {N : Nat} : ∀ (n : Nat) (l0 : Nat) (h : PH) (Q : Unit → PH → Prop), wp (f_X11_nextToken_0 N n l0 h) Q → G Γ yX11_nextToken cX11_nextToken 2 none (2, 0, 0) 0 [some (.ref l0), none] [] h (0, 0) (q_u Q)
  | 0, _, _, Q, hw => (wp_no hw).elim
  | n + 1, l0, h, Q, hw => f_X11_nextToken_0_bok (N := N) hs (f_X11_nextToken_0_ok (N := N) hs n) l0 h Q hw
set_option maxHeartbeats 4000000 in
set_option maxRecDepth 100000 in
theorem s_X11_nextToken {Γ : GX} (hs : SF Γ) {N : Nat} (l0 : Nat) (h : PH) (Q : Unit → PH → Prop) (hw : wp (f_X11_nextToken N l0 h) Q) : Spec Γ yX11_nextToken cX11_nextToken 2 none (2, 0, 0) [.ref l0] h (q_u Q) := by
  refine Spec.of (by decide) (Nat.le_of_ble_eq_true rfl) [some (.ref l0), none] rfl ?_
  unfold f_X11_nextToken at hw
  refine G.less [some (.ref l0), none] ⟨rfl, trivial⟩ ?_
  exact f_X11_nextToken_0_ok hs N _ h Q hw
set_option maxHeartbeats 4000000 in
set_option maxRecDepth 100000 in
theorem s_X11_isWord {Γ : GX} (hs : SF Γ) {N : Nat} (l0 : Nat) (l1 : Int64) (h : PH) (Q : Int32 → PH → Prop) (hw : wp (f_X11_isWord N l0 l1 h) Q) : Spec Γ yX11_isWord cX11_isWord 3 (some .boolean) (1, 0, 0) [.ref l0, .long l1] h (q_i Q) := by
  refine Spec.of (by decide) (Nat.le_of_ble_eq_true rfl) [some (.ref l0), some (.long l1), none] rfl ?_
  unfold f_X11_isWord at hw
  refine G_aload_n dX11_isWord_0 rfl ?_
  obtain ⟨c1, hw⟩ := wp_ck hw
  refine G_getI fl_X11_token w_1399 dX11_isWord_1 c1 ?_
  refine G_iconst (v := (1 : Int32)) dX11_isWord_4 (by decide) ?_
  have hw := wp_if hw
  refine G_icmp_ne (tgt := 21) dX11_isWord_5 rfl (fun c2 => ?_) (fun c2 => ?_)
  · have hw := hw.2 c2
    refine G_iconst (v := (0 : Int32)) dX11_isWord_21 (by decide) ?_
    exact G_zreturn rfl dX11_isWord_22 rfl ⟨_, rfl, wp_ret hw⟩
  · have hw := hw.1 c2
    refine G_aload_n dX11_isWord_8 rfl ?_
    refine G_getJ fl_X11_word w_1400 dX11_isWord_9 c1 ?_
    refine G_lload_n dX11_isWord_12 rfl ?_
    refine G_lcmp dX11_isWord_13 ?_
    have hw := wp_if hw
    refine G_if_ne (tgt := 21) dX11_isWord_14 rfl (fun c3 => ?_) (fun c3 => ?_)
    · have hw := hw.2 c3
      refine G_iconst (v := (0 : Int32)) dX11_isWord_21 (by decide) ?_
      exact G_zreturn rfl dX11_isWord_22 rfl ⟨_, rfl, wp_ret hw⟩
    · have hw := hw.1 c3
      refine G_iconst (v := (1 : Int32)) dX11_isWord_17 (by decide) ?_
      refine G_goto (tgt := 22) dX11_isWord_18 rfl ?_
      exact G_zreturn rfl dX11_isWord_22 rfl ⟨_, rfl, wp_ret hw⟩
set_option maxHeartbeats 4000000 in
set_option maxRecDepth 100000 in
theorem s_X11_isSign {Γ : GX} (hs : SF Γ) {N : Nat} (l0 : Nat) (l1 : Int32) (h : PH) (Q : Int32 → PH → Prop) (hw : wp (f_X11_isSign N l0 l1 h) Q) : Spec Γ yX11_isSign cX11_isSign 2 (some .boolean) (1, 0, 0) [.ref l0, .int l1] h (q_i Q) := by
  refine Spec.of (by decide) (Nat.le_of_ble_eq_true rfl) [some (.ref l0), some (.int l1)] rfl ?_
  unfold f_X11_isSign at hw
  refine G_aload_n dX11_isSign_0 rfl ?_
  obtain ⟨c1, hw⟩ := wp_ck hw
  refine G_getI fl_X11_token w_1399 dX11_isSign_1 c1 ?_
  refine G_iconst (v := (3 : Int32)) dX11_isSign_4 (by decide) ?_
  have hw := wp_if hw
  refine G_icmp_ne (tgt := 25) dX11_isSign_5 rfl (fun c2 => ?_) (fun c2 => ?_)
  · have hw := hw.2 c2
    refine G_iconst (v := (0 : Int32)) dX11_isSign_25 (by decide) ?_
    exact G_zreturn rfl dX11_isSign_26 rfl ⟨_, rfl, wp_ret hw⟩
  · have hw := hw.1 c2
    refine G_aload_n dX11_isSign_8 rfl ?_
    refine G_getR fl_X11_tape w_1395 dX11_isSign_9 c1 ?_
    obtain ⟨a3, ea3, hw⟩ := wp_rq hw
    refine G.sure ea3 ?_
    refine G_aload_n dX11_isSign_12 rfl ?_
    refine G_getI fl_X11_begin w_1398 dX11_isSign_13 c1 ?_
    obtain ⟨c4, hw⟩ := wp_ck hw
    obtain ⟨c5, hw⟩ := wp_ck hw
    refine G_iaload dX11_isSign_16 c4 c5 ?_
    refine G_iload_n dX11_isSign_17 rfl ?_
    have hw := wp_if hw
    refine G_icmp_ne (tgt := 25) dX11_isSign_18 rfl (fun c6 => ?_) (fun c6 => ?_)
    · have hw := hw.2 c6
      refine G_iconst (v := (0 : Int32)) dX11_isSign_25 (by decide) ?_
      exact G_zreturn rfl dX11_isSign_26 rfl ⟨_, rfl, wp_ret hw⟩
    · have hw := hw.1 c6
      refine G_iconst (v := (1 : Int32)) dX11_isSign_21 (by decide) ?_
      refine G_goto (tgt := 26) dX11_isSign_22 rfl ?_
      exact G_zreturn rfl dX11_isSign_26 rfl ⟨_, rfl, wp_ret hw⟩
set_option maxHeartbeats 4000000 in
set_option maxRecDepth 100000 in
theorem s_X11_fails {Γ : GX} (hs : SF Γ) {N : Nat} (l0 : Nat) (l1 : Int32) (h : PH) (Q : Int32 → PH → Prop) (hw : wp (f_X11_fails N l0 l1 h) Q) : Spec Γ yX11_fails cX11_fails 2 (some .boolean) (1, 0, 0) [.ref l0, .int l1] h (q_i Q) := by
  refine Spec.of (by decide) (Nat.le_of_ble_eq_true rfl) [some (.ref l0), some (.int l1)] rfl ?_
  unfold f_X11_fails at hw
  refine G_aload_n dX11_fails_0 rfl ?_
  refine G_iload_n dX11_fails_1 rfl ?_
  refine G_bipush (v := (16 : Int32)) dX11_fails_2 (by decide) ?_
  refine G_aload_n dX11_fails_4 rfl ?_
  obtain ⟨c1, hw⟩ := wp_ck hw
  refine G_getI fl_X11_begin w_1398 dX11_fails_5 c1 ?_
  refine G_imul dX11_fails_8 ?_
  refine G_iadd dX11_fails_9 ?_
  refine G_putI fl_X11_wrong w_1402 dX11_fails_10 c1 ?_
  refine G.nmh fun h2 eh2 => ?_
  have hw := wp_bd hw h2 eh2
  refine G_iconst (v := (0 : Int32)) dX11_fails_13 (by decide) ?_
  exact G_zreturn rfl dX11_fails_14 rfl ⟨_, rfl, wp_ret hw⟩
set_option maxHeartbeats 4000000 in
set_option maxRecDepth 100000 in
theorem s_X11_puts {Γ : GX} (hs : SF Γ) {N : Nat} (l0 : Nat) (l1 : Int32) (h : PH) (Q : Unit → PH → Prop) (hw : wp (f_X11_puts N l0 l1 h) Q) : Spec Γ yX11_puts cX11_puts 2 none (1, 0, 0) [.ref l0, .int l1] h (q_u Q) := by
  refine Spec.of (by decide) (Nat.le_of_ble_eq_true rfl) [some (.ref l0), some (.int l1)] rfl ?_
  unfold f_X11_puts at hw
  refine G_aload_n dX11_puts_0 rfl ?_
  obtain ⟨c1, hw⟩ := wp_ck hw
  refine G_getR fl_X11_codes w_1415 dX11_puts_1 c1 ?_
  obtain ⟨a2, ea2, hw⟩ := wp_rq hw
  refine G.sure ea2 ?_
  refine G_aload_n dX11_puts_4 rfl ?_
  refine G_getI fl_X11_code w_1416 dX11_puts_5 c1 ?_
  refine G_iload_n dX11_puts_8 rfl ?_
  obtain ⟨c3, hw⟩ := wp_ck hw
  obtain ⟨c4, hw⟩ := wp_ck hw
  refine G_iastore dX11_puts_9 c3 c4 ?_
  refine G.nmh fun h5 eh5 => ?_
  have hw := wp_bd hw h5 eh5
  refine G_aload_n dX11_puts_10 rfl ?_
  refine G_dup dX11_puts_11 rfl ?_
  obtain ⟨c6, hw⟩ := wp_ck hw
  refine G_getI fl_X11_code w_1416 dX11_puts_12 c6 ?_
  refine G_iconst (v := (1 : Int32)) dX11_puts_15 (by decide) ?_
  refine G_iadd dX11_puts_16 ?_
  refine G_putI fl_X11_code w_1416 dX11_puts_17 c6 ?_
  refine G.nmh fun h7 eh7 => ?_
  have hw := wp_bd hw h7 eh7
  exact G_vreturn rfl dX11_puts_20 ⟨rfl, wp_ret hw⟩
set_option maxHeartbeats 4000000 in
set_option maxRecDepth 100000 in
theorem s_X11_fact {Γ : GX} (hs : SF Γ) {N : Nat} (l0 : Nat) (h : PH) (Q : Int32 → PH → Prop) (hw : wp (f_X11_fact N l0 h) Q) : Spec Γ yX11_fact cX11_fact 1 (some .int) (1, 0, 0) [.ref l0] h (q_i Q) := by
  refine Spec.of (by decide) (Nat.le_of_ble_eq_true rfl) [some (.ref l0)] rfl ?_
  unfold f_X11_fact at hw
  refine G_aload_n dX11_fact_0 rfl ?_
  obtain ⟨c1, hw⟩ := wp_ck hw
  refine G_getI fl_X11_token w_1399 dX11_fact_1 c1 ?_
  refine G_iconst (v := (1 : Int32)) dX11_fact_4 (by decide) ?_
  have hw := wp_if hw
  refine G_icmp_eq (tgt := 10) dX11_fact_5 rfl (fun c2 => ?_) (fun c2 => ?_)
  · have hw := hw.1 c2
    refine G_aload_n dX11_fact_10 rfl ?_
    refine G_getJ fl_X11_word w_1400 dX11_fact_11 c1 ?_
    refine G_ldc2 (v := (10255685 : Int64)) dX11_fact_14 w_1744 ?_
    refine G_lcmp dX11_fact_17 ?_
    have hw := wp_if hw
    refine G_if_ne (tgt := 23) dX11_fact_18 rfl (fun c3 => ?_) (fun c3 => ?_)
    · have hw := hw.2 c3
      refine G_aload_n dX11_fact_23 rfl ?_
      refine G_getJ fl_X11_word w_1400 dX11_fact_24 c1 ?_
      refine G_ldc2 (v := (10160471 : Int64)) dX11_fact_27 w_1745 ?_
      refine G_lcmp dX11_fact_30 ?_
      have hw := wp_if hw
      refine G_if_ne (tgt := 36) dX11_fact_31 rfl (fun c4 => ?_) (fun c4 => ?_)
      · have hw := hw.2 c4
        refine G_aload_n dX11_fact_36 rfl ?_
        refine G_getJ fl_X11_word w_1400 dX11_fact_37 c1 ?_
        refine G_ldc2 (v := (459652 : Int64)) dX11_fact_40 w_1746 ?_
        refine G_lcmp dX11_fact_43 ?_
        have hw := wp_if hw
        refine G_if_ne (tgt := 49) dX11_fact_44 rfl (fun c5 => ?_) (fun c5 => ?_)
        · have hw := hw.2 c5
          refine G_aload_n dX11_fact_49 rfl ?_
          refine G_getI fl_X11_lawLine w_1417 dX11_fact_50 c1 ?_
          refine G_iconst (v := (1 : Int32)) dX11_fact_53 (by decide) ?_
          have hw := wp_if hw
          refine G_icmp_ne (tgt := 59) dX11_fact_54 rfl (fun c6 => ?_) (fun c6 => ?_)
          · have hw := hw.2 c6
            refine G_aload_n dX11_fact_59 rfl ?_
            refine G_getJ fl_X11_word w_1400 dX11_fact_60 c1 ?_
            refine G_ldc2 (v := (240023 : Int64)) dX11_fact_63 w_1747 ?_
            refine G_lcmp dX11_fact_66 ?_
            have hw := wp_if hw
            refine G_if_ne (tgt := 74) dX11_fact_67 rfl (fun c7 => ?_) (fun c7 => ?_)
            · have hw := hw.2 c7
              refine G_aload_n dX11_fact_74 rfl ?_
              refine G_getJ fl_X11_word w_1400 dX11_fact_75 c1 ?_
              refine G_ldc2 (v := (10357247 : Int64)) dX11_fact_78 w_1748 ?_
              refine G_lcmp dX11_fact_81 ?_
              have hw := wp_if hw
              refine G_if_ne (tgt := 89) dX11_fact_82 rfl (fun c8 => ?_) (fun c8 => ?_)
              · have hw := hw.2 c8
                refine G_iconst (v := (0 : Int32)) dX11_fact_89 (by decide) ?_
                exact G_ireturn rfl dX11_fact_90 ⟨_, rfl, wp_ret hw⟩
              · have hw := hw.1 c8
                refine G_iconst (v := (5 : Int32)) dX11_fact_85 (by decide) ?_
                refine G_goto (tgt := 90) dX11_fact_86 rfl ?_
                exact G_ireturn rfl dX11_fact_90 ⟨_, rfl, wp_ret hw⟩
            · have hw := hw.1 c7
              refine G_iconst (v := (4 : Int32)) dX11_fact_70 (by decide) ?_
              refine G_goto (tgt := 90) dX11_fact_71 rfl ?_
              exact G_ireturn rfl dX11_fact_90 ⟨_, rfl, wp_ret hw⟩
          · have hw := hw.1 c6
            refine G_iconst (v := (0 : Int32)) dX11_fact_57 (by decide) ?_
            exact G_ireturn rfl dX11_fact_58 ⟨_, rfl, wp_ret hw⟩
        · have hw := hw.1 c5
          refine G_iconst (v := (3 : Int32)) dX11_fact_47 (by decide) ?_
          exact G_ireturn rfl dX11_fact_48 ⟨_, rfl, wp_ret hw⟩
      · have hw := hw.1 c4
        refine G_iconst (v := (2 : Int32)) dX11_fact_34 (by decide) ?_
        exact G_ireturn rfl dX11_fact_35 ⟨_, rfl, wp_ret hw⟩
    · have hw := hw.1 c3
      refine G_iconst (v := (1 : Int32)) dX11_fact_21 (by decide) ?_
      exact G_ireturn rfl dX11_fact_22 ⟨_, rfl, wp_ret hw⟩
  · have hw := hw.2 c2
    refine G_iconst (v := (0 : Int32)) dX11_fact_8 (by decide) ?_
    exact G_ireturn rfl dX11_fact_9 ⟨_, rfl, wp_ret hw⟩
set_option maxHeartbeats 4000000 in
set_option maxRecDepth 100000 in
theorem f_X11_reads_172_ok {Γ : GX} (hs : SF Γ) {N : Nat} {K_11 : Nat → Int32 → Int32 → PH → Option (Int32 × PH)} (hK_11 : ∀ (l0 : Nat) (l1 : Int32) (l2 : Int32) (h : PH) (Q : Int32 → PH → Prop), wp (K_11 l0 l1 l2 h) Q → G Γ yX11_reads cX11_reads 6 (some .boolean) (3, 0, 0) 11 [some (.ref l0), some (.int l1), some (.int l2), none, none, none] [] h (0, 0) (q_i Q)) (l0 : Nat) (l1 : Int32) (l2 : Int32) (h : PH) (Q : Int32 → PH → Prop) (hw : wp (f_X11_reads_172 N K_11 l0 l1 l2 h) Q) : G Γ yX11_reads cX11_reads 6 (some .boolean) (3, 0, 0) 172 [some (.ref l0), some (.int l1), some (.int l2), none, none, none] [] h (0, 0) (q_i Q) := by
  unfold f_X11_reads_172 at hw
  refine G_aload_n dX11_reads_172 rfl ?_
  obtain ⟨c3, hw⟩ := wp_ck hw
  refine G_callV (As := []) (s_X11_nextToken hs l0 h _ (wp_cl hw)) ca_X11_nextToken w_1616 w_46 (ci := 10) rfl (by decide) w_1614 c3 (Nat.le_of_ble_eq_true rfl) (Nat.le_of_ble_eq_true rfl) rfl (Nat.le_of_ble_eq_true rfl) (Nat.le_of_ble_eq_true rfl) (Nat.le_of_ble_eq_true rfl) dX11_reads_173 rfl (fun v h2 hq => ?_)
  obtain ⟨rfl, hw⟩ := hq
  refine G.cse (cs' := (0, 0)) rfl ?_
  show GZ _ _ _ _ _ _ _ 176 _ [] _ _
  refine G_goto (tgt := 11) dX11_reads_176 rfl ?_
  refine G.less [some (.ref l0), some (.int l1), some (.int l2), none, none, none] ⟨rfl, ⟨rfl, ⟨rfl, trivial⟩⟩⟩ ?_
  exact hK_11 _ _ _ h2 Q hw
set_option maxHeartbeats 4000000 in
set_option maxRecDepth 100000 in
theorem f_X11_reads_120_ok {Γ : GX} (hs : SF Γ) {N : Nat} {K_11 : Nat → Int32 → Int32 → PH → Option (Int32 × PH)} (hK_11 : ∀ (l0 : Nat) (l1 : Int32) (l2 : Int32) (h : PH) (Q : Int32 → PH → Prop), wp (K_11 l0 l1 l2 h) Q → G Γ yX11_reads cX11_reads 6 (some .boolean) (3, 0, 0) 11 [some (.ref l0), some (.int l1), some (.int l2), none, none, none] [] h (0, 0) (q_i Q)) (s0 : Int32) (s1 : Int32) (s2 : Nat) (l0 : Nat) (l1 : Int32) (l2 : Int32) (h : PH) (Q : Int32 → PH → Prop) (hw : wp (f_X11_reads_120 N K_11 s0 s1 s2 l0 l1 l2 h) Q) : G Γ yX11_reads cX11_reads 6 (some .boolean) (3, 0, 0) 120 [some (.ref l0), some (.int l1), some (.int l2), none, none, none] [.int s0, .int s1, .ref s2] h (0, 0) (q_i Q) := by
  unfold f_X11_reads_120 at hw
  obtain ⟨c1, hw⟩ := wp_ck hw
  obtain ⟨c2, hw⟩ := wp_ck hw
  refine G_iastore dX11_reads_120 c1 c2 ?_
  refine G.nmh fun h3 eh3 => ?_
  have hw := wp_bd hw h3 eh3
  refine G_aload_n dX11_reads_121 rfl ?_
  obtain ⟨c4, hw⟩ := wp_ck hw
  refine G_getR fl_X11_compared w_1419 dX11_reads_122 c4 ?_
  obtain ⟨a5, ea5, hw⟩ := wp_rq hw
  refine G.sure ea5 ?_
  refine G_iload_n dX11_reads_125 rfl ?_
  refine G_iconst (v := (0 : Int32)) dX11_reads_126 (by decide) ?_
  obtain ⟨c6, hw⟩ := wp_ck hw
  obtain ⟨c7, hw⟩ := wp_ck hw
  refine G_zastore dX11_reads_127 c6 c7 ?_
  refine G.nmh fun h8 eh8 => ?_
  have hw := wp_bd hw h8 eh8
  refine G_goto (tgt := 172) dX11_reads_128 rfl ?_
  refine G.less [some (.ref l0), some (.int l1), some (.int l2), none, none, none] ⟨rfl, ⟨rfl, ⟨rfl, trivial⟩⟩⟩ ?_
  exact f_X11_reads_172_ok hs hK_11 _ _ _ h8 Q hw
set_option maxHeartbeats 4000000 in
set_option maxRecDepth 100000 in
theorem f_X11_reads_99_ok {Γ : GX} (hs : SF Γ) {N : Nat} {K_11 : Nat → Int32 → Int32 → PH → Option (Int32 × PH)} (hK_11 : ∀ (l0 : Nat) (l1 : Int32) (l2 : Int32) (h : PH) (Q : Int32 → PH → Prop), wp (K_11 l0 l1 l2 h) Q → G Γ yX11_reads cX11_reads 6 (some .boolean) (3, 0, 0) 11 [some (.ref l0), some (.int l1), some (.int l2), none, none, none] [] h (0, 0) (q_i Q)) (s0 : Int32) (s1 : Nat) (l0 : Nat) (l1 : Int32) (l2 : Int32) (l4 : Int32) (h : PH) (Q : Int32 → PH → Prop) (hw : wp (f_X11_reads_99 N K_11 s0 s1 l0 l1 l2 l4 h) Q) : G Γ yX11_reads cX11_reads 6 (some .boolean) (3, 0, 0) 99 [some (.ref l0), some (.int l1), some (.int l2), none, some (.int l4), none] [.int s0, .ref s1] h (0, 0) (q_i Q) := by
  unfold f_X11_reads_99 at hw
  obtain ⟨c3, hw⟩ := wp_ck hw
  refine G_callV (As := [.int s0]) (s_X11_puts hs s1 s0 h _ (wp_cl hw)) ca_X11_puts w_1751 w_71 (ci := 10) rfl (by decide) w_1749 c3 (Nat.le_of_ble_eq_true rfl) (Nat.le_of_ble_eq_true rfl) rfl (Nat.le_of_ble_eq_true rfl) (Nat.le_of_ble_eq_true rfl) (Nat.le_of_ble_eq_true rfl) dX11_reads_99 rfl (fun v h2 hq => ?_)
  obtain ⟨rfl, hw⟩ := hq
  refine G.cse (cs' := (0, 0)) rfl ?_
  show GZ _ _ _ _ _ _ _ 102 _ [] _ _
  obtain ⟨v4, ev4⟩ : ∃ z : Int32, z = l1 + (1 : Int32) := ⟨_, rfl⟩
  have hw := wp_bd hw v4 ev4
  refine G_iinc (v := v4) (lv' := [some (.ref l0), some (.int v4), some (.int l2), none, some (.int l4), none]) dX11_reads_102 rfl (by rw [ev4]; rfl) (Nat.le_of_ble_eq_true rfl) rfl ?_
  refine G_aload_n dX11_reads_105 rfl ?_
  obtain ⟨c5, hw⟩ := wp_ck hw
  refine G_getR fl_X11_opened w_1418 dX11_reads_106 c5 ?_
  obtain ⟨a6, ea6, hw⟩ := wp_rq hw
  refine G.sure ea6 ?_
  refine G_iload_n dX11_reads_109 rfl ?_
  refine G_iload dX11_reads_110 rfl ?_
  have hw := wp_if hw
  refine G_if_eq (tgt := 119) dX11_reads_112 rfl (fun c7 => ?_) (fun c7 => ?_)
  · have hw := hw.1 c7
    refine G_iconst (v := (2 : Int32)) dX11_reads_119 (by decide) ?_
    refine G.less [some (.ref l0), some (.int v4), some (.int l2), none, none, none] ⟨rfl, ⟨rfl, ⟨rfl, trivial⟩⟩⟩ ?_
    exact f_X11_reads_120_ok hs hK_11 _ _ _ _ _ _ h2 Q hw
  · have hw := hw.2 c7
    refine G_iconst (v := (1 : Int32)) dX11_reads_115 (by decide) ?_
    refine G_goto (tgt := 120) dX11_reads_116 rfl ?_
    refine G.less [some (.ref l0), some (.int v4), some (.int l2), none, none, none] ⟨rfl, ⟨rfl, ⟨rfl, trivial⟩⟩⟩ ?_
    exact f_X11_reads_120_ok hs hK_11 _ _ _ _ _ _ h2 Q hw
set_option maxHeartbeats 4000000 in
set_option maxRecDepth 100000 in
theorem f_X11_reads_86_ok {Γ : GX} (hs : SF Γ) {N : Nat} {K_11 : Nat → Int32 → Int32 → PH → Option (Int32 × PH)} (hK_11 : ∀ (l0 : Nat) (l1 : Int32) (l2 : Int32) (h : PH) (Q : Int32 → PH → Prop), wp (K_11 l0 l1 l2 h) Q → G Γ yX11_reads cX11_reads 6 (some .boolean) (3, 0, 0) 11 [some (.ref l0), some (.int l1), some (.int l2), none, none, none] [] h (0, 0) (q_i Q)) (l0 : Nat) (l1 : Int32) (l2 : Int32) (l4 : Int32) (h : PH) (Q : Int32 → PH → Prop) (hw : wp (f_X11_reads_86 N K_11 l0 l1 l2 l4 h) Q) : G Γ yX11_reads cX11_reads 6 (some .boolean) (3, 0, 0) 86 [some (.ref l0), some (.int l1), some (.int l2), none, some (.int l4), none] [] h (0, 0) (q_i Q) := by
  unfold f_X11_reads_86 at hw
  refine G_aload_n dX11_reads_86 rfl ?_
  refine G_iload dX11_reads_87 rfl ?_
  have hw := wp_if hw
  refine G_if_eq (tgt := 97) dX11_reads_89 rfl (fun c1 => ?_) (fun c1 => ?_)
  · have hw := hw.1 c1
    refine G_bipush (v := (28 : Int32)) dX11_reads_97 (by decide) ?_
    refine G.less [some (.ref l0), some (.int l1), some (.int l2), none, some (.int l4), none] ⟨rfl, ⟨rfl, ⟨rfl, ⟨rfl, trivial⟩⟩⟩⟩ ?_
    exact f_X11_reads_99_ok hs hK_11 _ _ _ _ _ _ h Q hw
  · have hw := hw.2 c1
    refine G_bipush (v := (30 : Int32)) dX11_reads_92 (by decide) ?_
    refine G_goto (tgt := 99) dX11_reads_94 rfl ?_
    refine G.less [some (.ref l0), some (.int l1), some (.int l2), none, some (.int l4), none] ⟨rfl, ⟨rfl, ⟨rfl, ⟨rfl, trivial⟩⟩⟩⟩ ?_
    exact f_X11_reads_99_ok hs hK_11 _ _ _ _ _ _ h Q hw
set_option maxHeartbeats 4000000 in
set_option maxRecDepth 100000 in
theorem f_X11_reads_152_bok {Γ : GX} (hs : SF Γ) {N : Nat} {K_11 : Nat → Int32 → Int32 → PH → Option (Int32 × PH)} {K_152 : Nat → Int32 → Int32 → PH → Option (Int32 × PH)} (hK_11 : ∀ (l0 : Nat) (l1 : Int32) (l2 : Int32) (h : PH) (Q : Int32 → PH → Prop), wp (K_11 l0 l1 l2 h) Q → G Γ yX11_reads cX11_reads 6 (some .boolean) (3, 0, 0) 11 [some (.ref l0), some (.int l1), some (.int l2), none, none, none] [] h (0, 0) (q_i Q)) (hK_152 : ∀ (l0 : Nat) (l1 : Int32) (l2 : Int32) (h : PH) (Q : Int32 → PH → Prop), wp (K_152 l0 l1 l2 h) Q → G Γ yX11_reads cX11_reads 6 (some .boolean) (3, 0, 0) 152 [some (.ref l0), some (.int l1), some (.int l2), none, none, none] [] h (0, 0) (q_i Q)) (l0 : Nat) (l1 : Int32) (l2 : Int32) (h : PH) (Q : Int32 → PH → Prop) (hw : wp (f_X11_reads_152_b N K_11 K_152 l0 l1 l2 h) Q) : G Γ yX11_reads cX11_reads 6 (some .boolean) (3, 0, 0) 152 [some (.ref l0), some (.int l1), some (.int l2), none, none, none] [] h (0, 0) (q_i Q) := by
  unfold f_X11_reads_152_b at hw
  refine G_iload_n dX11_reads_152 rfl ?_
  have hw := wp_if hw
  refine G_if_le (tgt := 172) dX11_reads_153 rfl (fun c1 => ?_) (fun c1 => ?_)
  · have hw := hw.1 c1
    refine G.less [some (.ref l0), some (.int l1), some (.int l2), none, none, none] ⟨rfl, ⟨rfl, ⟨rfl, trivial⟩⟩⟩ ?_
    exact f_X11_reads_172_ok hs hK_11 _ _ _ h Q hw
  · have hw := hw.2 c1
    refine G_aload_n dX11_reads_156 rfl ?_
    obtain ⟨c2, hw⟩ := wp_ck hw
    refine G_getR fl_X11_opened w_1418 dX11_reads_157 c2 ?_
    obtain ⟨a3, ea3, hw⟩ := wp_rq hw
    refine G.sure ea3 ?_
    refine G_iload_n dX11_reads_160 rfl ?_
    obtain ⟨c4, hw⟩ := wp_ck hw
    obtain ⟨c5, hw⟩ := wp_ck hw
    refine G_iaload dX11_reads_161 c4 c5 ?_
    refine G_iconst (v := (1 : Int32)) dX11_reads_162 (by decide) ?_
    have hw := wp_if hw
    refine G_icmp_ne (tgt := 172) dX11_reads_163 rfl (fun c6 => ?_) (fun c6 => ?_)
    · have hw := hw.2 c6
      refine G.less [some (.ref l0), some (.int l1), some (.int l2), none, none, none] ⟨rfl, ⟨rfl, ⟨rfl, trivial⟩⟩⟩ ?_
      exact f_X11_reads_172_ok hs hK_11 _ _ _ h Q hw
    · have hw := hw.1 c6
      obtain ⟨v7, ev7⟩ : ∃ z : Int32, z = l1 + (-1 : Int32) := ⟨_, rfl⟩
      have hw := wp_bd hw v7 ev7
      refine G_iinc (v := v7) (lv' := [some (.ref l0), some (.int v7), some (.int l2), none, none, none]) dX11_reads_166 rfl (by rw [ev7]; rfl) (Nat.le_of_ble_eq_true rfl) rfl ?_
      refine G_goto (tgt := 152) dX11_reads_169 rfl ?_
      refine G.less [some (.ref l0), some (.int v7), some (.int l2), none, none, none] ⟨rfl, ⟨rfl, ⟨rfl, trivial⟩⟩⟩ ?_
      exact hK_152 _ _ _ h Q hw
theorem f_X11_reads_152_ok {Γ : GX} (hs : SF Γ) {N : Nat} {K_11 : Nat → Int32 → Int32 → PH → Option (Int32 × PH)} (hK_11 : ∀ (l0 : Nat) (l1 : Int32) (l2 : Int32) (h : PH) (Q : Int32 → PH → Prop), wp (K_11 l0 l1 l2 h) Q → G Γ yX11_reads cX11_reads 6 (some .boolean) (3, 0, 0) 11 [some (.ref l0), some (.int l1), some (.int l2), none, none, none] [] h (0, 0) (q_i Q)) : ∀ (n : Nat) (l0 : Nat) (l1 : Int32) (l2 : Int32) (h : PH) (Q : Int32 → PH → Prop), wp (f_X11_reads_152 N K_11 n l0 l1 l2 h) Q → G Γ yX11_reads cX11_reads 6 (some .boolean) (3, 0, 0) 152 [some (.ref l0), some (.int l1), some (.int l2), none, none, none] [] h (0, 0) (q_i Q)
  | 0, _, _, _, _, Q, hw => (wp_no hw).elim
  | n + 1, l0, l1, l2, h, Q, hw => f_X11_reads_152_bok (N := N) hs hK_11 (f_X11_reads_152_ok (N := N) hs hK_11 n) l0 l1 l2 h Q hw
set_option maxHeartbeats 4000000 in
set_option maxRecDepth 100000 in
theorem f_X11_reads_147_ok {Γ : GX} (hs : SF Γ) {N : Nat} {K_11 : Nat → Int32 → Int32 → PH → Option (Int32 × PH)} (hK_11 : ∀ (l0 : Nat) (l1 : Int32) (l2 : Int32) (h : PH) (Q : Int32 → PH → Prop), wp (K_11 l0 l1 l2 h) Q → G Γ yX11_reads cX11_reads 6 (some .boolean) (3, 0, 0) 11 [some (.ref l0), some (.int l1), some (.int l2), none, none, none] [] h (0, 0) (q_i Q)) (s0 : Int32) (s1 : Nat) (l0 : Nat) (l1 : Int32) (h : PH) (Q : Int32 → PH → Prop) (hw : wp (f_X11_reads_147 N K_11 s0 s1 l0 l1 h) Q) : G Γ yX11_reads cX11_reads 6 (some .boolean) (3, 0, 0) 147 [some (.ref l0), some (.int l1), none, none, none, none] [.int s0, .ref s1] h (0, 0) (q_i Q) := by
  unfold f_X11_reads_147 at hw
  obtain ⟨c3, hw⟩ := wp_ck hw
  refine G_callV (As := [.int s0]) (s_X11_puts hs s1 s0 h _ (wp_cl hw)) ca_X11_puts w_1751 w_71 (ci := 10) rfl (by decide) w_1749 c3 (Nat.le_of_ble_eq_true rfl) (Nat.le_of_ble_eq_true rfl) rfl (Nat.le_of_ble_eq_true rfl) (Nat.le_of_ble_eq_true rfl) (Nat.le_of_ble_eq_true rfl) dX11_reads_147 rfl (fun v h2 hq => ?_)
  obtain ⟨rfl, hw⟩ := hq
  refine G.cse (cs' := (0, 0)) rfl ?_
  show GZ _ _ _ _ _ _ _ 150 _ [] _ _
  refine G_iconst (v := (0 : Int32)) dX11_reads_150 (by decide) ?_
  refine G_istore_n (lv' := [some (.ref l0), some (.int l1), some (.int (0 : Int32)), none, none, none]) dX11_reads_151 (Nat.le_of_ble_eq_true rfl) rfl ?_
  refine G.less [some (.ref l0), some (.int l1), some (.int (0 : Int32)), none, none, none] ⟨rfl, ⟨rfl, ⟨rfl, trivial⟩⟩⟩ ?_
  exact f_X11_reads_152_ok hs hK_11 N _ _ _ h2 Q hw
set_option maxHeartbeats 4000000 in
set_option maxRecDepth 100000 in
theorem f_X11_reads_65_ok {Γ : GX} (hs : SF Γ) {N : Nat} {K_11 : Nat → Int32 → Int32 → PH → Option (Int32 × PH)} (hK_11 : ∀ (l0 : Nat) (l1 : Int32) (l2 : Int32) (h : PH) (Q : Int32 → PH → Prop), wp (K_11 l0 l1 l2 h) Q → G Γ yX11_reads cX11_reads 6 (some .boolean) (3, 0, 0) 11 [some (.ref l0), some (.int l1), some (.int l2), none, none, none] [] h (0, 0) (q_i Q)) (l0 : Nat) (l1 : Int32) (l2 : Int32) (l3 : Int32) (l4 : Int32) (l5 : Int32) (h : PH) (Q : Int32 → PH → Prop) (hw : wp (f_X11_reads_65 N K_11 l0 l1 l2 l3 l4 l5 h) Q) : G Γ yX11_reads cX11_reads 6 (some .boolean) (3, 0, 0) 65 [some (.ref l0), some (.int l1), some (.int l2), some (.int l3), some (.int l4), some (.int l5)] [] h (0, 0) (q_i Q) := by
  unfold f_X11_reads_65 at hw
  refine G_iload_n dX11_reads_65 rfl ?_
  refine G_iconst (v := (5 : Int32)) dX11_reads_66 (by decide) ?_
  have hw := wp_if hw
  refine G_icmp_ne (tgt := 76) dX11_reads_67 rfl (fun c1 => ?_) (fun c1 => ?_)
  · have hw := hw.2 c1
    refine G_iload dX11_reads_76 rfl ?_
    have hw := wp_if hw
    refine G_if_ne (tgt := 86) dX11_reads_78 rfl (fun c2 => ?_) (fun c2 => ?_)
    · have hw := hw.2 c2
      refine G.less [some (.ref l0), some (.int l1), some (.int l2), none, some (.int l4), none] ⟨rfl, ⟨rfl, ⟨rfl, ⟨rfl, trivial⟩⟩⟩⟩ ?_
      exact f_X11_reads_86_ok hs hK_11 _ _ _ _ h Q hw
    · have hw := hw.1 c2
      refine G_iload dX11_reads_81 rfl ?_
      have hw := wp_if hw
      refine G_if_eq (tgt := 131) dX11_reads_83 rfl (fun c3 => ?_) (fun c3 => ?_)
      · have hw := hw.1 c3
        refine G_aload_n dX11_reads_131 rfl ?_
        refine G_iload_n dX11_reads_132 rfl ?_
        have hw := wp_if hw
        refine G_if_le (tgt := 140) dX11_reads_133 rfl (fun c4 => ?_) (fun c4 => ?_)
        · have hw := hw.1 c4
          refine G_bipush (v := (100 : Int32)) dX11_reads_140 (by decide) ?_
          refine G_aload_n dX11_reads_142 rfl ?_
          obtain ⟨c5, hw⟩ := wp_ck hw
          refine G_getI fl_X11_told w_1401 dX11_reads_143 c5 ?_
          refine G_iadd dX11_reads_146 ?_
          refine G.less [some (.ref l0), some (.int l1), none, none, none, none] ⟨rfl, ⟨rfl, trivial⟩⟩ ?_
          exact f_X11_reads_147_ok hs hK_11 _ _ _ _ h Q hw
        · have hw := hw.2 c4
          refine G_iload_n dX11_reads_136 rfl ?_
          refine G_goto (tgt := 147) dX11_reads_137 rfl ?_
          refine G.less [some (.ref l0), some (.int l1), none, none, none, none] ⟨rfl, ⟨rfl, trivial⟩⟩ ?_
          exact f_X11_reads_147_ok hs hK_11 _ _ _ _ h Q hw
      · have hw := hw.2 c3
        refine G.less [some (.ref l0), some (.int l1), some (.int l2), none, some (.int l4), none] ⟨rfl, ⟨rfl, ⟨rfl, ⟨rfl, trivial⟩⟩⟩⟩ ?_
        exact f_X11_reads_86_ok hs hK_11 _ _ _ _ h Q hw
  · have hw := hw.1 c1
    refine G_aload_n dX11_reads_70 rfl ?_
    refine G_iconst (v := (5 : Int32)) dX11_reads_71 (by decide) ?_
    obtain ⟨c8, hw⟩ := wp_ck hw
    refine G_callV (As := [.int (5 : Int32)]) (s_X11_fails hs l0 (5 : Int32) h _ (wp_cl hw)) ca_X11_fails w_1635 w_50 (ci := 10) rfl (by decide) w_1633 c8 (Nat.le_of_ble_eq_true rfl) (Nat.le_of_ble_eq_true rfl) rfl (Nat.le_of_ble_eq_true rfl) (Nat.le_of_ble_eq_true rfl) (Nat.le_of_ble_eq_true rfl) dX11_reads_72 rfl (fun v h7 hq => ?_)
    obtain ⟨r6, rfl, hw⟩ := hq
    refine G.cse (cs' := (0, 0)) rfl ?_
    show GZ _ _ _ _ _ _ _ 75 _ (.int r6 :: []) _ _
    obtain ⟨c9, hw⟩ := wp_ck hw
    exact G_zreturn rfl dX11_reads_75 (g_nb c9) ⟨_, rfl, wp_ret hw⟩
set_option maxHeartbeats 4000000 in
set_option maxRecDepth 100000 in
theorem f_X11_reads_424_ok {Γ : GX} (hs : SF Γ) {N : Nat} {K_11 : Nat → Int32 → Int32 → PH → Option (Int32 × PH)} (hK_11 : ∀ (l0 : Nat) (l1 : Int32) (l2 : Int32) (h : PH) (Q : Int32 → PH → Prop), wp (K_11 l0 l1 l2 h) Q → G Γ yX11_reads cX11_reads 6 (some .boolean) (3, 0, 0) 11 [some (.ref l0), some (.int l1), some (.int l2), none, none, none] [] h (0, 0) (q_i Q)) (l0 : Nat) (l1 : Int32) (l2 : Int32) (h : PH) (Q : Int32 → PH → Prop) (hw : wp (f_X11_reads_424 N K_11 l0 l1 l2 h) Q) : G Γ yX11_reads cX11_reads 6 (some .boolean) (3, 0, 0) 424 [some (.ref l0), some (.int l1), some (.int l2), none, none, none] [] h (0, 0) (q_i Q) := by
  unfold f_X11_reads_424 at hw
  refine G_aload_n dX11_reads_424 rfl ?_
  obtain ⟨c3, hw⟩ := wp_ck hw
  refine G_callV (As := []) (s_X11_nextToken hs l0 h _ (wp_cl hw)) ca_X11_nextToken w_1616 w_46 (ci := 10) rfl (by decide) w_1614 c3 (Nat.le_of_ble_eq_true rfl) (Nat.le_of_ble_eq_true rfl) rfl (Nat.le_of_ble_eq_true rfl) (Nat.le_of_ble_eq_true rfl) (Nat.le_of_ble_eq_true rfl) dX11_reads_425 rfl (fun v h2 hq => ?_)
  obtain ⟨rfl, hw⟩ := hq
  refine G.cse (cs' := (0, 0)) rfl ?_
  show GZ _ _ _ _ _ _ _ 428 _ [] _ _
  refine G_goto (tgt := 11) dX11_reads_428 rfl ?_
  refine G.less [some (.ref l0), some (.int l1), some (.int l2), none, none, none] ⟨rfl, ⟨rfl, ⟨rfl, trivial⟩⟩⟩ ?_
  exact hK_11 _ _ _ h2 Q hw
set_option maxHeartbeats 4000000 in
set_option maxRecDepth 100000 in
theorem f_X11_reads_237_ok {Γ : GX} (hs : SF Γ) {N : Nat} {K_11 : Nat → Int32 → Int32 → PH → Option (Int32 × PH)} (hK_11 : ∀ (l0 : Nat) (l1 : Int32) (l2 : Int32) (h : PH) (Q : Int32 → PH → Prop), wp (K_11 l0 l1 l2 h) Q → G Γ yX11_reads cX11_reads 6 (some .boolean) (3, 0, 0) 11 [some (.ref l0), some (.int l1), some (.int l2), none, none, none] [] h (0, 0) (q_i Q)) (s0 : Int32) (s1 : Nat) (l0 : Nat) (l1 : Int32) (h : PH) (Q : Int32 → PH → Prop) (hw : wp (f_X11_reads_237 N K_11 s0 s1 l0 l1 h) Q) : G Γ yX11_reads cX11_reads 6 (some .boolean) (3, 0, 0) 237 [some (.ref l0), some (.int l1), none, none, none, none] [.int s0, .ref s1] h (0, 0) (q_i Q) := by
  unfold f_X11_reads_237 at hw
  obtain ⟨c3, hw⟩ := wp_ck hw
  refine G_callV (As := [.int s0]) (s_X11_puts hs s1 s0 h _ (wp_cl hw)) ca_X11_puts w_1751 w_71 (ci := 10) rfl (by decide) w_1749 c3 (Nat.le_of_ble_eq_true rfl) (Nat.le_of_ble_eq_true rfl) rfl (Nat.le_of_ble_eq_true rfl) (Nat.le_of_ble_eq_true rfl) (Nat.le_of_ble_eq_true rfl) dX11_reads_237 rfl (fun v h2 hq => ?_)
  obtain ⟨rfl, hw⟩ := hq
  refine G.cse (cs' := (0, 0)) rfl ?_
  show GZ _ _ _ _ _ _ _ 240 _ [] _ _
  refine G_iconst (v := (1 : Int32)) dX11_reads_240 (by decide) ?_
  refine G_istore_n (lv' := [some (.ref l0), some (.int l1), some (.int (1 : Int32)), none, none, none]) dX11_reads_241 (Nat.le_of_ble_eq_true rfl) rfl ?_
  refine G_goto (tgt := 424) dX11_reads_242 rfl ?_
  refine G.less [some (.ref l0), some (.int l1), some (.int (1 : Int32)), none, none, none] ⟨rfl, ⟨rfl, ⟨rfl, trivial⟩⟩⟩ ?_
  exact f_X11_reads_424_ok hs hK_11 _ _ _ h2 Q hw
set_option maxHeartbeats 4000000 in
set_option maxRecDepth 100000 in
theorem f_X11_reads_206_ok {Γ : GX} (hs : SF Γ) {N : Nat} {K_11 : Nat → Int32 → Int32 → PH → Option (Int32 × PH)} (hK_11 : ∀ (l0 : Nat) (l1 : Int32) (l2 : Int32) (h : PH) (Q : Int32 → PH → Prop), wp (K_11 l0 l1 l2 h) Q → G Γ yX11_reads cX11_reads 6 (some .boolean) (3, 0, 0) 11 [some (.ref l0), some (.int l1), some (.int l2), none, none, none] [] h (0, 0) (q_i Q)) (l0 : Nat) (l1 : Int32) (h : PH) (Q : Int32 → PH → Prop) (hw : wp (f_X11_reads_206 N K_11 l0 l1 h) Q) : G Γ yX11_reads cX11_reads 6 (some .boolean) (3, 0, 0) 206 [some (.ref l0), some (.int l1), none, none, none, none] [] h (0, 0) (q_i Q) := by
  unfold f_X11_reads_206 at hw
  refine G_aload_n dX11_reads_206 rfl ?_
  refine G_aload_n dX11_reads_207 rfl ?_
  refine G_bipush (v := (43 : Int32)) dX11_reads_208 (by decide) ?_
  obtain ⟨c3, hw⟩ := wp_ck hw
  refine G_callV (As := [.int (43 : Int32)]) (s_X11_isSign hs l0 (43 : Int32) h _ (wp_cl hw)) ca_X11_isSign w_1698 w_59 (ci := 10) rfl (by decide) w_1696 c3 (Nat.le_of_ble_eq_true rfl) (Nat.le_of_ble_eq_true rfl) rfl (Nat.le_of_ble_eq_true rfl) (Nat.le_of_ble_eq_true rfl) (Nat.le_of_ble_eq_true rfl) dX11_reads_210 rfl (fun v h2 hq => ?_)
  obtain ⟨r1, rfl, hw⟩ := hq
  refine G.cse (cs' := (0, 0)) rfl ?_
  show GZ _ _ _ _ _ _ _ 213 _ (.int r1 :: [.ref l0]) _ _
  have hw := wp_if hw
  refine G_if_eq (tgt := 221) dX11_reads_213 rfl (fun c4 => ?_) (fun c4 => ?_)
  · have hw := hw.1 c4
    refine G_aload_n dX11_reads_221 rfl ?_
    refine G_bipush (v := (45 : Int32)) dX11_reads_222 (by decide) ?_
    obtain ⟨c7, hw⟩ := wp_ck hw
    refine G_callV (As := [.int (45 : Int32)]) (s_X11_isSign hs l0 (45 : Int32) h2 _ (wp_cl hw)) ca_X11_isSign w_1698 w_59 (ci := 10) rfl (by decide) w_1696 c7 (Nat.le_of_ble_eq_true rfl) (Nat.le_of_ble_eq_true rfl) rfl (Nat.le_of_ble_eq_true rfl) (Nat.le_of_ble_eq_true rfl) (Nat.le_of_ble_eq_true rfl) dX11_reads_224 rfl (fun v h6 hq => ?_)
    obtain ⟨r5, rfl, hw⟩ := hq
    refine G.cse (cs' := (0, 0)) rfl ?_
    show GZ _ _ _ _ _ _ _ 227 _ (.int r5 :: [.ref l0]) _ _
    have hw := wp_if hw
    refine G_if_eq (tgt := 235) dX11_reads_227 rfl (fun c8 => ?_) (fun c8 => ?_)
    · have hw := hw.1 c8
      refine G_bipush (v := (22 : Int32)) dX11_reads_235 (by decide) ?_
      refine G.less [some (.ref l0), some (.int l1), none, none, none, none] ⟨rfl, ⟨rfl, trivial⟩⟩ ?_
      exact f_X11_reads_237_ok hs hK_11 _ _ _ _ h6 Q hw
    · have hw := hw.2 c8
      refine G_bipush (v := (21 : Int32)) dX11_reads_230 (by decide) ?_
      refine G_goto (tgt := 237) dX11_reads_232 rfl ?_
      refine G.less [some (.ref l0), some (.int l1), none, none, none, none] ⟨rfl, ⟨rfl, trivial⟩⟩ ?_
      exact f_X11_reads_237_ok hs hK_11 _ _ _ _ h6 Q hw
  · have hw := hw.2 c4
    refine G_bipush (v := (20 : Int32)) dX11_reads_216 (by decide) ?_
    refine G_goto (tgt := 237) dX11_reads_218 rfl ?_
    refine G.less [some (.ref l0), some (.int l1), none, none, none, none] ⟨rfl, ⟨rfl, trivial⟩⟩ ?_
    exact f_X11_reads_237_ok hs hK_11 _ _ _ _ h2 Q hw
set_option maxHeartbeats 4000000 in
set_option maxRecDepth 100000 in
theorem f_X11_reads_289_ok {Γ : GX} (hs : SF Γ) {N : Nat} {K_11 : Nat → Int32 → Int32 → PH → Option (Int32 × PH)} (hK_11 : ∀ (l0 : Nat) (l1 : Int32) (l2 : Int32) (h : PH) (Q : Int32 → PH → Prop), wp (K_11 l0 l1 l2 h) Q → G Γ yX11_reads cX11_reads 6 (some .boolean) (3, 0, 0) 11 [some (.ref l0), some (.int l1), some (.int l2), none, none, none] [] h (0, 0) (q_i Q)) (s0 : Int32) (s1 : Nat) (l0 : Nat) (l1 : Int32) (h : PH) (Q : Int32 → PH → Prop) (hw : wp (f_X11_reads_289 N K_11 s0 s1 l0 l1 h) Q) : G Γ yX11_reads cX11_reads 6 (some .boolean) (3, 0, 0) 289 [some (.ref l0), some (.int l1), none, none, none, none] [.int s0, .ref s1] h (0, 0) (q_i Q) := by
  unfold f_X11_reads_289 at hw
  obtain ⟨c3, hw⟩ := wp_ck hw
  refine G_callV (As := [.int s0]) (s_X11_puts hs s1 s0 h _ (wp_cl hw)) ca_X11_puts w_1751 w_71 (ci := 10) rfl (by decide) w_1749 c3 (Nat.le_of_ble_eq_true rfl) (Nat.le_of_ble_eq_true rfl) rfl (Nat.le_of_ble_eq_true rfl) (Nat.le_of_ble_eq_true rfl) (Nat.le_of_ble_eq_true rfl) dX11_reads_289 rfl (fun v h2 hq => ?_)
  obtain ⟨rfl, hw⟩ := hq
  refine G.cse (cs' := (0, 0)) rfl ?_
  show GZ _ _ _ _ _ _ _ 292 _ [] _ _
  refine G_aload_n dX11_reads_292 rfl ?_
  obtain ⟨c4, hw⟩ := wp_ck hw
  refine G_getR fl_X11_compared w_1419 dX11_reads_293 c4 ?_
  obtain ⟨a5, ea5, hw⟩ := wp_rq hw
  refine G.sure ea5 ?_
  refine G_iload_n dX11_reads_296 rfl ?_
  refine G_iconst (v := (1 : Int32)) dX11_reads_297 (by decide) ?_
  obtain ⟨c6, hw⟩ := wp_ck hw
  obtain ⟨c7, hw⟩ := wp_ck hw
  refine G_zastore dX11_reads_298 c6 c7 ?_
  refine G.nmh fun h8 eh8 => ?_
  have hw := wp_bd hw h8 eh8
  refine G_iconst (v := (1 : Int32)) dX11_reads_299 (by decide) ?_
  refine G_istore_n (lv' := [some (.ref l0), some (.int l1), some (.int (1 : Int32)), none, none, none]) dX11_reads_300 (Nat.le_of_ble_eq_true rfl) rfl ?_
  refine G_goto (tgt := 424) dX11_reads_301 rfl ?_
  refine G.less [some (.ref l0), some (.int l1), some (.int (1 : Int32)), none, none, none] ⟨rfl, ⟨rfl, ⟨rfl, trivial⟩⟩⟩ ?_
  exact f_X11_reads_424_ok hs hK_11 _ _ _ h8 Q hw
set_option maxHeartbeats 4000000 in
set_option maxRecDepth 100000 in
theorem f_X11_reads_342_ok {Γ : GX} (hs : SF Γ) {N : Nat} {K_11 : Nat → Int32 → Int32 → PH → Option (Int32 × PH)} (hK_11 : ∀ (l0 : Nat) (l1 : Int32) (l2 : Int32) (h : PH) (Q : Int32 → PH → Prop), wp (K_11 l0 l1 l2 h) Q → G Γ yX11_reads cX11_reads 6 (some .boolean) (3, 0, 0) 11 [some (.ref l0), some (.int l1), some (.int l2), none, none, none] [] h (0, 0) (q_i Q)) (s0 : Int32) (s1 : Nat) (l0 : Nat) (l1 : Int32) (h : PH) (Q : Int32 → PH → Prop) (hw : wp (f_X11_reads_342 N K_11 s0 s1 l0 l1 h) Q) : G Γ yX11_reads cX11_reads 6 (some .boolean) (3, 0, 0) 342 [some (.ref l0), some (.int l1), none, none, none, none] [.int s0, .ref s1] h (0, 0) (q_i Q) := by
  unfold f_X11_reads_342 at hw
  obtain ⟨c3, hw⟩ := wp_ck hw
  refine G_callV (As := [.int s0]) (s_X11_puts hs s1 s0 h _ (wp_cl hw)) ca_X11_puts w_1751 w_71 (ci := 10) rfl (by decide) w_1749 c3 (Nat.le_of_ble_eq_true rfl) (Nat.le_of_ble_eq_true rfl) rfl (Nat.le_of_ble_eq_true rfl) (Nat.le_of_ble_eq_true rfl) (Nat.le_of_ble_eq_true rfl) dX11_reads_342 rfl (fun v h2 hq => ?_)
  obtain ⟨rfl, hw⟩ := hq
  refine G.cse (cs' := (0, 0)) rfl ?_
  show GZ _ _ _ _ _ _ _ 345 _ [] _ _
  refine G_aload_n dX11_reads_345 rfl ?_
  obtain ⟨c4, hw⟩ := wp_ck hw
  refine G_getR fl_X11_compared w_1419 dX11_reads_346 c4 ?_
  obtain ⟨a5, ea5, hw⟩ := wp_rq hw
  refine G.sure ea5 ?_
  refine G_iload_n dX11_reads_349 rfl ?_
  refine G_iconst (v := (0 : Int32)) dX11_reads_350 (by decide) ?_
  obtain ⟨c6, hw⟩ := wp_ck hw
  obtain ⟨c7, hw⟩ := wp_ck hw
  refine G_zastore dX11_reads_351 c6 c7 ?_
  refine G.nmh fun h8 eh8 => ?_
  have hw := wp_bd hw h8 eh8
  refine G_iconst (v := (1 : Int32)) dX11_reads_352 (by decide) ?_
  refine G_istore_n (lv' := [some (.ref l0), some (.int l1), some (.int (1 : Int32)), none, none, none]) dX11_reads_353 (Nat.le_of_ble_eq_true rfl) rfl ?_
  refine G_goto (tgt := 424) dX11_reads_354 rfl ?_
  refine G.less [some (.ref l0), some (.int l1), some (.int (1 : Int32)), none, none, none] ⟨rfl, ⟨rfl, ⟨rfl, trivial⟩⟩⟩ ?_
  exact f_X11_reads_424_ok hs hK_11 _ _ _ h8 Q hw
set_option maxHeartbeats 4000000 in
set_option maxRecDepth 100000 in
theorem f_X11_reads_324_ok {Γ : GX} (hs : SF Γ) {N : Nat} {K_11 : Nat → Int32 → Int32 → PH → Option (Int32 × PH)} (hK_11 : ∀ (l0 : Nat) (l1 : Int32) (l2 : Int32) (h : PH) (Q : Int32 → PH → Prop), wp (K_11 l0 l1 l2 h) Q → G Γ yX11_reads cX11_reads 6 (some .boolean) (3, 0, 0) 11 [some (.ref l0), some (.int l1), some (.int l2), none, none, none] [] h (0, 0) (q_i Q)) (l0 : Nat) (l1 : Int32) (h : PH) (Q : Int32 → PH → Prop) (hw : wp (f_X11_reads_324 N K_11 l0 l1 h) Q) : G Γ yX11_reads cX11_reads 6 (some .boolean) (3, 0, 0) 324 [some (.ref l0), some (.int l1), none, none, none, none] [] h (0, 0) (q_i Q) := by
  unfold f_X11_reads_324 at hw
  refine G_aload_n dX11_reads_324 rfl ?_
  refine G_aload_n dX11_reads_325 rfl ?_
  refine G_ldc2 (v := (1111 : Int64)) dX11_reads_326 w_1664 ?_
  obtain ⟨c3, hw⟩ := wp_ck hw
  refine G_callV (As := [.long (1111 : Int64)]) (s_X11_isWord hs l0 (1111 : Int64) h _ (wp_cl hw)) ca_X11_isWord w_1627 w_48 (ci := 10) rfl (by decide) w_1625 c3 (Nat.le_of_ble_eq_true rfl) (Nat.le_of_ble_eq_true rfl) rfl (Nat.le_of_ble_eq_true rfl) (Nat.le_of_ble_eq_true rfl) (Nat.le_of_ble_eq_true rfl) dX11_reads_329 rfl (fun v h2 hq => ?_)
  obtain ⟨r1, rfl, hw⟩ := hq
  refine G.cse (cs' := (0, 0)) rfl ?_
  show GZ _ _ _ _ _ _ _ 332 _ (.int r1 :: [.ref l0]) _ _
  have hw := wp_if hw
  refine G_if_eq (tgt := 340) dX11_reads_332 rfl (fun c4 => ?_) (fun c4 => ?_)
  · have hw := hw.1 c4
    refine G_bipush (v := (27 : Int32)) dX11_reads_340 (by decide) ?_
    refine G.less [some (.ref l0), some (.int l1), none, none, none, none] ⟨rfl, ⟨rfl, trivial⟩⟩ ?_
    exact f_X11_reads_342_ok hs hK_11 _ _ _ _ h2 Q hw
  · have hw := hw.2 c4
    refine G_bipush (v := (26 : Int32)) dX11_reads_335 (by decide) ?_
    refine G_goto (tgt := 342) dX11_reads_337 rfl ?_
    refine G.less [some (.ref l0), some (.int l1), none, none, none, none] ⟨rfl, ⟨rfl, trivial⟩⟩ ?_
    exact f_X11_reads_342_ok hs hK_11 _ _ _ _ h2 Q hw
set_option maxHeartbeats 4000000 in
set_option maxRecDepth 100000 in
theorem f_X11_reads_379_bok {Γ : GX} (hs : SF Γ) {N : Nat} {K_11 : Nat → Int32 → Int32 → PH → Option (Int32 × PH)} {K_379 : Nat → Int32 → Int32 → PH → Option (Int32 × PH)} (hK_11 : ∀ (l0 : Nat) (l1 : Int32) (l2 : Int32) (h : PH) (Q : Int32 → PH → Prop), wp (K_11 l0 l1 l2 h) Q → G Γ yX11_reads cX11_reads 6 (some .boolean) (3, 0, 0) 11 [some (.ref l0), some (.int l1), some (.int l2), none, none, none] [] h (0, 0) (q_i Q)) (hK_379 : ∀ (l0 : Nat) (l1 : Int32) (l2 : Int32) (h : PH) (Q : Int32 → PH → Prop), wp (K_379 l0 l1 l2 h) Q → G Γ yX11_reads cX11_reads 6 (some .boolean) (3, 0, 0) 379 [some (.ref l0), some (.int l1), some (.int l2), none, none, none] [] h (0, 0) (q_i Q)) (l0 : Nat) (l1 : Int32) (l2 : Int32) (h : PH) (Q : Int32 → PH → Prop) (hw : wp (f_X11_reads_379_b N K_11 K_379 l0 l1 l2 h) Q) : G Γ yX11_reads cX11_reads 6 (some .boolean) (3, 0, 0) 379 [some (.ref l0), some (.int l1), some (.int l2), none, none, none] [] h (0, 0) (q_i Q) := by
  unfold f_X11_reads_379_b at hw
  refine G_iload_n dX11_reads_379 rfl ?_
  have hw := wp_if hw
  refine G_if_le (tgt := 424) dX11_reads_380 rfl (fun c1 => ?_) (fun c1 => ?_)
  · have hw := hw.1 c1
    refine G.less [some (.ref l0), some (.int l1), some (.int l2), none, none, none] ⟨rfl, ⟨rfl, ⟨rfl, trivial⟩⟩⟩ ?_
    exact f_X11_reads_424_ok hs hK_11 _ _ _ h Q hw
  · have hw := hw.2 c1
    refine G_aload_n dX11_reads_383 rfl ?_
    obtain ⟨c2, hw⟩ := wp_ck hw
    refine G_getR fl_X11_opened w_1418 dX11_reads_384 c2 ?_
    obtain ⟨a3, ea3, hw⟩ := wp_rq hw
    refine G.sure ea3 ?_
    refine G_iload_n dX11_reads_387 rfl ?_
    obtain ⟨c4, hw⟩ := wp_ck hw
    obtain ⟨c5, hw⟩ := wp_ck hw
    refine G_iaload dX11_reads_388 c4 c5 ?_
    refine G_iconst (v := (1 : Int32)) dX11_reads_389 (by decide) ?_
    have hw := wp_if hw
    refine G_icmp_ne (tgt := 424) dX11_reads_390 rfl (fun c6 => ?_) (fun c6 => ?_)
    · have hw := hw.2 c6
      refine G.less [some (.ref l0), some (.int l1), some (.int l2), none, none, none] ⟨rfl, ⟨rfl, ⟨rfl, trivial⟩⟩⟩ ?_
      exact f_X11_reads_424_ok hs hK_11 _ _ _ h Q hw
    · have hw := hw.1 c6
      obtain ⟨v7, ev7⟩ : ∃ z : Int32, z = l1 + (-1 : Int32) := ⟨_, rfl⟩
      have hw := wp_bd hw v7 ev7
      refine G_iinc (v := v7) (lv' := [some (.ref l0), some (.int v7), some (.int l2), none, none, none]) dX11_reads_393 rfl (by rw [ev7]; rfl) (Nat.le_of_ble_eq_true rfl) rfl ?_
      refine G_goto (tgt := 379) dX11_reads_396 rfl ?_
      refine G.less [some (.ref l0), some (.int v7), some (.int l2), none, none, none] ⟨rfl, ⟨rfl, ⟨rfl, trivial⟩⟩⟩ ?_
      exact hK_379 _ _ _ h Q hw
theorem f_X11_reads_379_ok {Γ : GX} (hs : SF Γ) {N : Nat} {K_11 : Nat → Int32 → Int32 → PH → Option (Int32 × PH)} (hK_11 : ∀ (l0 : Nat) (l1 : Int32) (l2 : Int32) (h : PH) (Q : Int32 → PH → Prop), wp (K_11 l0 l1 l2 h) Q → G Γ yX11_reads cX11_reads 6 (some .boolean) (3, 0, 0) 11 [some (.ref l0), some (.int l1), some (.int l2), none, none, none] [] h (0, 0) (q_i Q)) : ∀ (n : Nat) (l0 : Nat) (l1 : Int32) (l2 : Int32) (h : PH) (Q : Int32 → PH → Prop), wp (f_X11_reads_379 N K_11 n l0 l1 l2 h) Q → G Γ yX11_reads cX11_reads 6 (some .boolean) (3, 0, 0) 379 [some (.ref l0), some (.int l1), some (.int l2), none, none, none] [] h (0, 0) (q_i Q)
  | 0, _, _, _, _, Q, hw => (wp_no hw).elim
  | n + 1, l0, l1, l2, h, Q, hw => f_X11_reads_379_bok (N := N) hs hK_11 (f_X11_reads_379_ok (N := N) hs hK_11 n) l0 l1 l2 h Q hw
set_option maxHeartbeats 4000000 in
set_option maxRecDepth 100000 in
theorem f_X11_reads_418_ok {Γ : GX} (hs : SF Γ) {N : Nat} (l0 : Nat) (h : PH) (Q : Int32 → PH → Prop) (hw : wp (f_X11_reads_418 N l0 h) Q) : G Γ yX11_reads cX11_reads 6 (some .boolean) (3, 0, 0) 418 [some (.ref l0), none, none, none, none, none] [] h (0, 0) (q_i Q) := by
  unfold f_X11_reads_418 at hw
  refine G_aload_n dX11_reads_418 rfl ?_
  refine G_iconst (v := (1 : Int32)) dX11_reads_419 (by decide) ?_
  obtain ⟨c3, hw⟩ := wp_ck hw
  refine G_callV (As := [.int (1 : Int32)]) (s_X11_fails hs l0 (1 : Int32) h _ (wp_cl hw)) ca_X11_fails w_1635 w_50 (ci := 10) rfl (by decide) w_1633 c3 (Nat.le_of_ble_eq_true rfl) (Nat.le_of_ble_eq_true rfl) rfl (Nat.le_of_ble_eq_true rfl) (Nat.le_of_ble_eq_true rfl) (Nat.le_of_ble_eq_true rfl) dX11_reads_420 rfl (fun v h2 hq => ?_)
  obtain ⟨r1, rfl, hw⟩ := hq
  refine G.cse (cs' := (0, 0)) rfl ?_
  show GZ _ _ _ _ _ _ _ 423 _ (.int r1 :: []) _ _
  obtain ⟨c4, hw⟩ := wp_ck hw
  exact G_zreturn rfl dX11_reads_423 (g_nb c4) ⟨_, rfl, wp_ret hw⟩
set_option maxHeartbeats 4000000 in
set_option maxRecDepth 100000 in
theorem f_X11_reads_399_ok {Γ : GX} (hs : SF Γ) {N : Nat} (l0 : Nat) (l1 : Int32) (h : PH) (Q : Int32 → PH → Prop) (hw : wp (f_X11_reads_399 N l0 l1 h) Q) : G Γ yX11_reads cX11_reads 6 (some .boolean) (3, 0, 0) 399 [some (.ref l0), some (.int l1), none, none, none, none] [] h (0, 0) (q_i Q) := by
  unfold f_X11_reads_399 at hw
  refine G_iload_n dX11_reads_399 rfl ?_
  have hw := wp_if hw
  refine G_if_ne (tgt := 418) dX11_reads_400 rfl (fun c1 => ?_) (fun c1 => ?_)
  · have hw := hw.2 c1
    refine G.less [some (.ref l0), none, none, none, none, none] ⟨rfl, trivial⟩ ?_
    exact f_X11_reads_418_ok hs _ h Q hw
  · have hw := hw.1 c1
    refine G_aload_n dX11_reads_403 rfl ?_
    refine G_bipush (v := (59 : Int32)) dX11_reads_404 (by decide) ?_
    obtain ⟨c4, hw⟩ := wp_ck hw
    refine G_callV (As := [.int (59 : Int32)]) (s_X11_isSign hs l0 (59 : Int32) h _ (wp_cl hw)) ca_X11_isSign w_1698 w_59 (ci := 10) rfl (by decide) w_1696 c4 (Nat.le_of_ble_eq_true rfl) (Nat.le_of_ble_eq_true rfl) rfl (Nat.le_of_ble_eq_true rfl) (Nat.le_of_ble_eq_true rfl) (Nat.le_of_ble_eq_true rfl) dX11_reads_406 rfl (fun v h3 hq => ?_)
    obtain ⟨r2, rfl, hw⟩ := hq
    refine G.cse (cs' := (0, 0)) rfl ?_
    show GZ _ _ _ _ _ _ _ 409 _ (.int r2 :: []) _ _
    have hw := wp_if hw
    refine G_if_eq (tgt := 418) dX11_reads_409 rfl (fun c5 => ?_) (fun c5 => ?_)
    · have hw := hw.1 c5
      refine G.less [some (.ref l0), none, none, none, none, none] ⟨rfl, trivial⟩ ?_
      exact f_X11_reads_418_ok hs _ h3 Q hw
    · have hw := hw.2 c5
      refine G_aload_n dX11_reads_412 rfl ?_
      obtain ⟨c8, hw⟩ := wp_ck hw
      refine G_callV (As := []) (s_X11_nextToken hs l0 h3 _ (wp_cl hw)) ca_X11_nextToken w_1616 w_46 (ci := 10) rfl (by decide) w_1614 c8 (Nat.le_of_ble_eq_true rfl) (Nat.le_of_ble_eq_true rfl) rfl (Nat.le_of_ble_eq_true rfl) (Nat.le_of_ble_eq_true rfl) (Nat.le_of_ble_eq_true rfl) dX11_reads_413 rfl (fun v h7 hq => ?_)
      obtain ⟨rfl, hw⟩ := hq
      refine G.cse (cs' := (0, 0)) rfl ?_
      show GZ _ _ _ _ _ _ _ 416 _ [] _ _
      refine G_iconst (v := (1 : Int32)) dX11_reads_416 (by decide) ?_
      exact G_zreturn rfl dX11_reads_417 rfl ⟨_, rfl, wp_ret hw⟩
set_option maxHeartbeats 4000000 in
set_option maxRecDepth 100000 in
theorem f_X11_reads_304_ok {Γ : GX} (hs : SF Γ) {N : Nat} {K_11 : Nat → Int32 → Int32 → PH → Option (Int32 × PH)} (hK_11 : ∀ (l0 : Nat) (l1 : Int32) (l2 : Int32) (h : PH) (Q : Int32 → PH → Prop), wp (K_11 l0 l1 l2 h) Q → G Γ yX11_reads cX11_reads 6 (some .boolean) (3, 0, 0) 11 [some (.ref l0), some (.int l1), some (.int l2), none, none, none] [] h (0, 0) (q_i Q)) (l0 : Nat) (l1 : Int32) (l2 : Int32) (h : PH) (Q : Int32 → PH → Prop) (hw : wp (f_X11_reads_304 N K_11 l0 l1 l2 h) Q) : G Γ yX11_reads cX11_reads 6 (some .boolean) (3, 0, 0) 304 [some (.ref l0), some (.int l1), some (.int l2), none, none, none] [] h (0, 0) (q_i Q) := by
  unfold f_X11_reads_304 at hw
  refine G_aload_n dX11_reads_304 rfl ?_
  refine G_ldc2 (v := (1111 : Int64)) dX11_reads_305 w_1664 ?_
  obtain ⟨c3, hw⟩ := wp_ck hw
  refine G_callV (As := [.long (1111 : Int64)]) (s_X11_isWord hs l0 (1111 : Int64) h _ (wp_cl hw)) ca_X11_isWord w_1627 w_48 (ci := 10) rfl (by decide) w_1625 c3 (Nat.le_of_ble_eq_true rfl) (Nat.le_of_ble_eq_true rfl) rfl (Nat.le_of_ble_eq_true rfl) (Nat.le_of_ble_eq_true rfl) (Nat.le_of_ble_eq_true rfl) dX11_reads_308 rfl (fun v h2 hq => ?_)
  obtain ⟨r1, rfl, hw⟩ := hq
  refine G.cse (cs' := (0, 0)) rfl ?_
  show GZ _ _ _ _ _ _ _ 311 _ (.int r1 :: []) _ _
  have hw := wp_if hw
  refine G_if_ne (tgt := 324) dX11_reads_311 rfl (fun c4 => ?_) (fun c4 => ?_)
  · have hw := hw.2 c4
    refine G.less [some (.ref l0), some (.int l1), none, none, none, none] ⟨rfl, ⟨rfl, trivial⟩⟩ ?_
    exact f_X11_reads_324_ok hs hK_11 _ _ h2 Q hw
  · have hw := hw.1 c4
    refine G_aload_n dX11_reads_314 rfl ?_
    refine G_ldc2 (v := (423 : Int64)) dX11_reads_315 w_1665 ?_
    obtain ⟨c7, hw⟩ := wp_ck hw
    refine G_callV (As := [.long (423 : Int64)]) (s_X11_isWord hs l0 (423 : Int64) h2 _ (wp_cl hw)) ca_X11_isWord w_1627 w_48 (ci := 10) rfl (by decide) w_1625 c7 (Nat.le_of_ble_eq_true rfl) (Nat.le_of_ble_eq_true rfl) rfl (Nat.le_of_ble_eq_true rfl) (Nat.le_of_ble_eq_true rfl) (Nat.le_of_ble_eq_true rfl) dX11_reads_318 rfl (fun v h6 hq => ?_)
    obtain ⟨r5, rfl, hw⟩ := hq
    refine G.cse (cs' := (0, 0)) rfl ?_
    show GZ _ _ _ _ _ _ _ 321 _ (.int r5 :: []) _ _
    have hw := wp_if hw
    refine G_if_eq (tgt := 357) dX11_reads_321 rfl (fun c8 => ?_) (fun c8 => ?_)
    · have hw := hw.1 c8
      refine G_aload_n dX11_reads_357 rfl ?_
      refine G_bipush (v := (41 : Int32)) dX11_reads_358 (by decide) ?_
      obtain ⟨c11, hw⟩ := wp_ck hw
      refine G_callV (As := [.int (41 : Int32)]) (s_X11_isSign hs l0 (41 : Int32) h6 _ (wp_cl hw)) ca_X11_isSign w_1698 w_59 (ci := 10) rfl (by decide) w_1696 c11 (Nat.le_of_ble_eq_true rfl) (Nat.le_of_ble_eq_true rfl) rfl (Nat.le_of_ble_eq_true rfl) (Nat.le_of_ble_eq_true rfl) (Nat.le_of_ble_eq_true rfl) dX11_reads_360 rfl (fun v h10 hq => ?_)
      obtain ⟨r9, rfl, hw⟩ := hq
      refine G.cse (cs' := (0, 0)) rfl ?_
      show GZ _ _ _ _ _ _ _ 363 _ (.int r9 :: []) _ _
      have hw := wp_if hw
      refine G_if_eq (tgt := 399) dX11_reads_363 rfl (fun c12 => ?_) (fun c12 => ?_)
      · have hw := hw.1 c12
        refine G.less [some (.ref l0), some (.int l1), none, none, none, none] ⟨rfl, ⟨rfl, trivial⟩⟩ ?_
        exact f_X11_reads_399_ok hs _ _ h10 Q hw
      · have hw := hw.2 c12
        refine G_iload_n dX11_reads_366 rfl ?_
        have hw := wp_if hw
        refine G_if_le (tgt := 399) dX11_reads_367 rfl (fun c13 => ?_) (fun c13 => ?_)
        · have hw := hw.1 c13
          refine G.less [some (.ref l0), some (.int l1), none, none, none, none] ⟨rfl, ⟨rfl, trivial⟩⟩ ?_
          exact f_X11_reads_399_ok hs _ _ h10 Q hw
        · have hw := hw.2 c13
          refine G_aload_n dX11_reads_370 rfl ?_
          refine G_bipush (v := (29 : Int32)) dX11_reads_371 (by decide) ?_
          obtain ⟨c16, hw⟩ := wp_ck hw
          refine G_callV (As := [.int (29 : Int32)]) (s_X11_puts hs l0 (29 : Int32) h10 _ (wp_cl hw)) ca_X11_puts w_1751 w_71 (ci := 10) rfl (by decide) w_1749 c16 (Nat.le_of_ble_eq_true rfl) (Nat.le_of_ble_eq_true rfl) rfl (Nat.le_of_ble_eq_true rfl) (Nat.le_of_ble_eq_true rfl) (Nat.le_of_ble_eq_true rfl) dX11_reads_373 rfl (fun v h15 hq => ?_)
          obtain ⟨rfl, hw⟩ := hq
          refine G.cse (cs' := (0, 0)) rfl ?_
          show GZ _ _ _ _ _ _ _ 376 _ [] _ _
          obtain ⟨v17, ev17⟩ : ∃ z : Int32, z = l1 + (-1 : Int32) := ⟨_, rfl⟩
          have hw := wp_bd hw v17 ev17
          refine G_iinc (v := v17) (lv' := [some (.ref l0), some (.int v17), some (.int l2), none, none, none]) dX11_reads_376 rfl (by rw [ev17]; rfl) (Nat.le_of_ble_eq_true rfl) rfl ?_
          refine G.less [some (.ref l0), some (.int v17), some (.int l2), none, none, none] ⟨rfl, ⟨rfl, ⟨rfl, trivial⟩⟩⟩ ?_
          exact f_X11_reads_379_ok hs hK_11 N _ _ _ h15 Q hw
    · have hw := hw.2 c8
      refine G.less [some (.ref l0), some (.int l1), none, none, none, none] ⟨rfl, ⟨rfl, trivial⟩⟩ ?_
      exact f_X11_reads_324_ok hs hK_11 _ _ h6 Q hw
set_option maxHeartbeats 4000000 in
set_option maxRecDepth 100000 in
theorem f_X11_reads_263_ok {Γ : GX} (hs : SF Γ) {N : Nat} {K_11 : Nat → Int32 → Int32 → PH → Option (Int32 × PH)} (hK_11 : ∀ (l0 : Nat) (l1 : Int32) (l2 : Int32) (h : PH) (Q : Int32 → PH → Prop), wp (K_11 l0 l1 l2 h) Q → G Γ yX11_reads cX11_reads 6 (some .boolean) (3, 0, 0) 11 [some (.ref l0), some (.int l1), some (.int l2), none, none, none] [] h (0, 0) (q_i Q)) (l0 : Nat) (l1 : Int32) (l2 : Int32) (h : PH) (Q : Int32 → PH → Prop) (hw : wp (f_X11_reads_263 N K_11 l0 l1 l2 h) Q) : G Γ yX11_reads cX11_reads 6 (some .boolean) (3, 0, 0) 263 [some (.ref l0), some (.int l1), some (.int l2), none, none, none] [] h (0, 0) (q_i Q) := by
  unfold f_X11_reads_263 at hw
  refine G_aload_n dX11_reads_263 rfl ?_
  obtain ⟨c1, hw⟩ := wp_ck hw
  refine G_getR fl_X11_compared w_1419 dX11_reads_264 c1 ?_
  obtain ⟨a2, ea2, hw⟩ := wp_rq hw
  refine G.sure ea2 ?_
  refine G_iload_n dX11_reads_267 rfl ?_
  obtain ⟨c3, hw⟩ := wp_ck hw
  obtain ⟨c4, hw⟩ := wp_ck hw
  refine G_zaload dX11_reads_268 c3 c4 ?_
  have hw := wp_if hw
  refine G_if_ne (tgt := 304) dX11_reads_269 rfl (fun c5 => ?_) (fun c5 => ?_)
  · have hw := hw.2 c5
    refine G.less [some (.ref l0), some (.int l1), some (.int l2), none, none, none] ⟨rfl, ⟨rfl, ⟨rfl, trivial⟩⟩⟩ ?_
    exact f_X11_reads_304_ok hs hK_11 _ _ _ h Q hw
  · have hw := hw.1 c5
    refine G_aload_n dX11_reads_272 rfl ?_
    refine G_aload_n dX11_reads_273 rfl ?_
    refine G_bipush (v := (60 : Int32)) dX11_reads_274 (by decide) ?_
    refine G_callV (As := [.int (60 : Int32)]) (s_X11_isSign hs l0 (60 : Int32) h _ (wp_cl hw)) ca_X11_isSign w_1698 w_59 (ci := 10) rfl (by decide) w_1696 c1 (Nat.le_of_ble_eq_true rfl) (Nat.le_of_ble_eq_true rfl) rfl (Nat.le_of_ble_eq_true rfl) (Nat.le_of_ble_eq_true rfl) (Nat.le_of_ble_eq_true rfl) dX11_reads_276 rfl (fun v h7 hq => ?_)
    obtain ⟨r6, rfl, hw⟩ := hq
    refine G.cse (cs' := (0, 0)) rfl ?_
    show GZ _ _ _ _ _ _ _ 279 _ (.int r6 :: [.ref l0]) _ _
    have hw := wp_if hw
    refine G_if_eq (tgt := 287) dX11_reads_279 rfl (fun c8 => ?_) (fun c8 => ?_)
    · have hw := hw.1 c8
      refine G_bipush (v := (25 : Int32)) dX11_reads_287 (by decide) ?_
      refine G.less [some (.ref l0), some (.int l1), none, none, none, none] ⟨rfl, ⟨rfl, trivial⟩⟩ ?_
      exact f_X11_reads_289_ok hs hK_11 _ _ _ _ h7 Q hw
    · have hw := hw.2 c8
      refine G_bipush (v := (24 : Int32)) dX11_reads_282 (by decide) ?_
      refine G_goto (tgt := 289) dX11_reads_284 rfl ?_
      refine G.less [some (.ref l0), some (.int l1), none, none, none, none] ⟨rfl, ⟨rfl, trivial⟩⟩ ?_
      exact f_X11_reads_289_ok hs hK_11 _ _ _ _ h7 Q hw
set_option maxHeartbeats 4000000 in
set_option maxRecDepth 100000 in
theorem f_X11_reads_11_bok {Γ : GX} (hs : SF Γ) {N : Nat} {K_11 : Nat → Int32 → Int32 → PH → Option (Int32 × PH)} (hK_11 : ∀ (l0 : Nat) (l1 : Int32) (l2 : Int32) (h : PH) (Q : Int32 → PH → Prop), wp (K_11 l0 l1 l2 h) Q → G Γ yX11_reads cX11_reads 6 (some .boolean) (3, 0, 0) 11 [some (.ref l0), some (.int l1), some (.int l2), none, none, none] [] h (0, 0) (q_i Q)) (l0 : Nat) (l1 : Int32) (l2 : Int32) (h : PH) (Q : Int32 → PH → Prop) (hw : wp (f_X11_reads_11_b N K_11 l0 l1 l2 h) Q) : G Γ yX11_reads cX11_reads 6 (some .boolean) (3, 0, 0) 11 [some (.ref l0), some (.int l1), some (.int l2), none, none, none] [] h (0, 0) (q_i Q) := by
  unfold f_X11_reads_11_b at hw
  refine G_iload_n dX11_reads_11 rfl ?_
  have hw := wp_if hw
  refine G_if_eq (tgt := 179) dX11_reads_12 rfl (fun c1 => ?_) (fun c1 => ?_)
  · have hw := hw.1 c1
    refine G_aload_n dX11_reads_179 rfl ?_
    refine G_bipush (v := (43 : Int32)) dX11_reads_180 (by decide) ?_
    obtain ⟨c4, hw⟩ := wp_ck hw
    refine G_callV (As := [.int (43 : Int32)]) (s_X11_isSign hs l0 (43 : Int32) h _ (wp_cl hw)) ca_X11_isSign w_1698 w_59 (ci := 10) rfl (by decide) w_1696 c4 (Nat.le_of_ble_eq_true rfl) (Nat.le_of_ble_eq_true rfl) rfl (Nat.le_of_ble_eq_true rfl) (Nat.le_of_ble_eq_true rfl) (Nat.le_of_ble_eq_true rfl) dX11_reads_182 rfl (fun v h3 hq => ?_)
    obtain ⟨r2, rfl, hw⟩ := hq
    refine G.cse (cs' := (0, 0)) rfl ?_
    show GZ _ _ _ _ _ _ _ 185 _ (.int r2 :: []) _ _
    have hw := wp_if hw
    refine G_if_ne (tgt := 206) dX11_reads_185 rfl (fun c5 => ?_) (fun c5 => ?_)
    · have hw := hw.2 c5
      refine G.less [some (.ref l0), some (.int l1), none, none, none, none] ⟨rfl, ⟨rfl, trivial⟩⟩ ?_
      exact f_X11_reads_206_ok hs hK_11 _ _ h3 Q hw
    · have hw := hw.1 c5
      refine G_aload_n dX11_reads_188 rfl ?_
      refine G_bipush (v := (45 : Int32)) dX11_reads_189 (by decide) ?_
      obtain ⟨c8, hw⟩ := wp_ck hw
      refine G_callV (As := [.int (45 : Int32)]) (s_X11_isSign hs l0 (45 : Int32) h3 _ (wp_cl hw)) ca_X11_isSign w_1698 w_59 (ci := 10) rfl (by decide) w_1696 c8 (Nat.le_of_ble_eq_true rfl) (Nat.le_of_ble_eq_true rfl) rfl (Nat.le_of_ble_eq_true rfl) (Nat.le_of_ble_eq_true rfl) (Nat.le_of_ble_eq_true rfl) dX11_reads_191 rfl (fun v h7 hq => ?_)
      obtain ⟨r6, rfl, hw⟩ := hq
      refine G.cse (cs' := (0, 0)) rfl ?_
      show GZ _ _ _ _ _ _ _ 194 _ (.int r6 :: []) _ _
      have hw := wp_if hw
      refine G_if_ne (tgt := 206) dX11_reads_194 rfl (fun c9 => ?_) (fun c9 => ?_)
      · have hw := hw.2 c9
        refine G.less [some (.ref l0), some (.int l1), none, none, none, none] ⟨rfl, ⟨rfl, trivial⟩⟩ ?_
        exact f_X11_reads_206_ok hs hK_11 _ _ h7 Q hw
      · have hw := hw.1 c9
        refine G_aload_n dX11_reads_197 rfl ?_
        refine G_bipush (v := (42 : Int32)) dX11_reads_198 (by decide) ?_
        obtain ⟨c12, hw⟩ := wp_ck hw
        refine G_callV (As := [.int (42 : Int32)]) (s_X11_isSign hs l0 (42 : Int32) h7 _ (wp_cl hw)) ca_X11_isSign w_1698 w_59 (ci := 10) rfl (by decide) w_1696 c12 (Nat.le_of_ble_eq_true rfl) (Nat.le_of_ble_eq_true rfl) rfl (Nat.le_of_ble_eq_true rfl) (Nat.le_of_ble_eq_true rfl) (Nat.le_of_ble_eq_true rfl) dX11_reads_200 rfl (fun v h11 hq => ?_)
        obtain ⟨r10, rfl, hw⟩ := hq
        refine G.cse (cs' := (0, 0)) rfl ?_
        show GZ _ _ _ _ _ _ _ 203 _ (.int r10 :: []) _ _
        have hw := wp_if hw
        refine G_if_eq (tgt := 245) dX11_reads_203 rfl (fun c13 => ?_) (fun c13 => ?_)
        · have hw := hw.1 c13
          refine G_aload_n dX11_reads_245 rfl ?_
          refine G_bipush (v := (60 : Int32)) dX11_reads_246 (by decide) ?_
          obtain ⟨c16, hw⟩ := wp_ck hw
          refine G_callV (As := [.int (60 : Int32)]) (s_X11_isSign hs l0 (60 : Int32) h11 _ (wp_cl hw)) ca_X11_isSign w_1698 w_59 (ci := 10) rfl (by decide) w_1696 c16 (Nat.le_of_ble_eq_true rfl) (Nat.le_of_ble_eq_true rfl) rfl (Nat.le_of_ble_eq_true rfl) (Nat.le_of_ble_eq_true rfl) (Nat.le_of_ble_eq_true rfl) dX11_reads_248 rfl (fun v h15 hq => ?_)
          obtain ⟨r14, rfl, hw⟩ := hq
          refine G.cse (cs' := (0, 0)) rfl ?_
          show GZ _ _ _ _ _ _ _ 251 _ (.int r14 :: []) _ _
          have hw := wp_if hw
          refine G_if_ne (tgt := 263) dX11_reads_251 rfl (fun c17 => ?_) (fun c17 => ?_)
          · have hw := hw.2 c17
            refine G.less [some (.ref l0), some (.int l1), some (.int l2), none, none, none] ⟨rfl, ⟨rfl, ⟨rfl, trivial⟩⟩⟩ ?_
            exact f_X11_reads_263_ok hs hK_11 _ _ _ h15 Q hw
          · have hw := hw.1 c17
            refine G_aload_n dX11_reads_254 rfl ?_
            refine G_bipush (v := (61 : Int32)) dX11_reads_255 (by decide) ?_
            obtain ⟨c20, hw⟩ := wp_ck hw
            refine G_callV (As := [.int (61 : Int32)]) (s_X11_isSign hs l0 (61 : Int32) h15 _ (wp_cl hw)) ca_X11_isSign w_1698 w_59 (ci := 10) rfl (by decide) w_1696 c20 (Nat.le_of_ble_eq_true rfl) (Nat.le_of_ble_eq_true rfl) rfl (Nat.le_of_ble_eq_true rfl) (Nat.le_of_ble_eq_true rfl) (Nat.le_of_ble_eq_true rfl) dX11_reads_257 rfl (fun v h19 hq => ?_)
            obtain ⟨r18, rfl, hw⟩ := hq
            refine G.cse (cs' := (0, 0)) rfl ?_
            show GZ _ _ _ _ _ _ _ 260 _ (.int r18 :: []) _ _
            have hw := wp_if hw
            refine G_if_eq (tgt := 304) dX11_reads_260 rfl (fun c21 => ?_) (fun c21 => ?_)
            · have hw := hw.1 c21
              refine G.less [some (.ref l0), some (.int l1), some (.int l2), none, none, none] ⟨rfl, ⟨rfl, ⟨rfl, trivial⟩⟩⟩ ?_
              exact f_X11_reads_304_ok hs hK_11 _ _ _ h19 Q hw
            · have hw := hw.2 c21
              refine G.less [some (.ref l0), some (.int l1), some (.int l2), none, none, none] ⟨rfl, ⟨rfl, ⟨rfl, trivial⟩⟩⟩ ?_
              exact f_X11_reads_263_ok hs hK_11 _ _ _ h19 Q hw
        · have hw := hw.2 c13
          refine G.less [some (.ref l0), some (.int l1), none, none, none, none] ⟨rfl, ⟨rfl, trivial⟩⟩ ?_
          exact f_X11_reads_206_ok hs hK_11 _ _ h11 Q hw
  · have hw := hw.2 c1
    refine G_aload_n dX11_reads_15 rfl ?_
    obtain ⟨c24, hw⟩ := wp_ck hw
    refine G_callV (As := []) (s_X11_fact hs l0 h _ (wp_cl hw)) ca_X11_fact w_1742 w_70 (ci := 10) rfl (by decide) w_1740 c24 (Nat.le_of_ble_eq_true rfl) (Nat.le_of_ble_eq_true rfl) rfl (Nat.le_of_ble_eq_true rfl) (Nat.le_of_ble_eq_true rfl) (Nat.le_of_ble_eq_true rfl) dX11_reads_16 rfl (fun v h23 hq => ?_)
    obtain ⟨r22, rfl, hw⟩ := hq
    refine G.cse (cs' := (0, 0)) rfl ?_
    show GZ _ _ _ _ _ _ _ 19 _ (.int r22 :: []) _ _
    refine G_istore_n (lv' := [some (.ref l0), some (.int l1), some (.int l2), some (.int r22), none, none]) dX11_reads_19 (Nat.le_of_ble_eq_true rfl) rfl ?_
    refine G_aload_n dX11_reads_20 rfl ?_
    refine G_ldc2 (v := (10631 : Int64)) dX11_reads_21 w_1663 ?_
    obtain ⟨c27, hw⟩ := wp_ck hw
    refine G_callV (As := [.long (10631 : Int64)]) (s_X11_isWord hs l0 (10631 : Int64) h23 _ (wp_cl hw)) ca_X11_isWord w_1627 w_48 (ci := 10) rfl (by decide) w_1625 c27 (Nat.le_of_ble_eq_true rfl) (Nat.le_of_ble_eq_true rfl) rfl (Nat.le_of_ble_eq_true rfl) (Nat.le_of_ble_eq_true rfl) (Nat.le_of_ble_eq_true rfl) dX11_reads_24 rfl (fun v h26 hq => ?_)
    obtain ⟨r25, rfl, hw⟩ := hq
    refine G.cse (cs' := (0, 0)) rfl ?_
    show GZ _ _ _ _ _ _ _ 27 _ (.int r25 :: []) _ _
    refine G_istore (lv' := [some (.ref l0), some (.int l1), some (.int l2), some (.int r22), some (.int r25), none]) dX11_reads_27 (Nat.le_of_ble_eq_true rfl) rfl ?_
    refine G_aload_n dX11_reads_29 rfl ?_
    refine G_bipush (v := (40 : Int32)) dX11_reads_30 (by decide) ?_
    obtain ⟨c30, hw⟩ := wp_ck hw
    refine G_callV (As := [.int (40 : Int32)]) (s_X11_isSign hs l0 (40 : Int32) h26 _ (wp_cl hw)) ca_X11_isSign w_1698 w_59 (ci := 10) rfl (by decide) w_1696 c30 (Nat.le_of_ble_eq_true rfl) (Nat.le_of_ble_eq_true rfl) rfl (Nat.le_of_ble_eq_true rfl) (Nat.le_of_ble_eq_true rfl) (Nat.le_of_ble_eq_true rfl) dX11_reads_32 rfl (fun v h29 hq => ?_)
    obtain ⟨r28, rfl, hw⟩ := hq
    refine G.cse (cs' := (0, 0)) rfl ?_
    show GZ _ _ _ _ _ _ _ 35 _ (.int r28 :: []) _ _
    refine G_istore (lv' := [some (.ref l0), some (.int l1), some (.int l2), some (.int r22), some (.int r25), some (.int r28)]) dX11_reads_35 (Nat.le_of_ble_eq_true rfl) rfl ?_
    refine G_iload_n dX11_reads_37 rfl ?_
    have hw := wp_if hw
    refine G_if_ne (tgt := 65) dX11_reads_38 rfl (fun c31 => ?_) (fun c31 => ?_)
    · have hw := hw.2 c31
      refine G.less [some (.ref l0), some (.int l1), some (.int l2), some (.int r22), some (.int r25), some (.int r28)] ⟨rfl, ⟨rfl, ⟨rfl, ⟨rfl, ⟨rfl, ⟨rfl, trivial⟩⟩⟩⟩⟩⟩ ?_
      exact f_X11_reads_65_ok hs hK_11 _ _ _ _ _ _ h29 Q hw
    · have hw := hw.1 c31
      refine G_iload dX11_reads_41 rfl ?_
      have hw := wp_if hw
      refine G_if_ne (tgt := 65) dX11_reads_43 rfl (fun c32 => ?_) (fun c32 => ?_)
      · have hw := hw.2 c32
        refine G.less [some (.ref l0), some (.int l1), some (.int l2), some (.int r22), some (.int r25), some (.int r28)] ⟨rfl, ⟨rfl, ⟨rfl, ⟨rfl, ⟨rfl, ⟨rfl, trivial⟩⟩⟩⟩⟩⟩ ?_
        exact f_X11_reads_65_ok hs hK_11 _ _ _ _ _ _ h29 Q hw
      · have hw := hw.1 c32
        refine G_iload dX11_reads_46 rfl ?_
        have hw := wp_if hw
        refine G_if_ne (tgt := 65) dX11_reads_48 rfl (fun c33 => ?_) (fun c33 => ?_)
        · have hw := hw.2 c33
          refine G.less [some (.ref l0), some (.int l1), some (.int l2), some (.int r22), some (.int r25), some (.int r28)] ⟨rfl, ⟨rfl, ⟨rfl, ⟨rfl, ⟨rfl, ⟨rfl, trivial⟩⟩⟩⟩⟩⟩ ?_
          exact f_X11_reads_65_ok hs hK_11 _ _ _ _ _ _ h29 Q hw
        · have hw := hw.1 c33
          refine G_aload_n dX11_reads_51 rfl ?_
          obtain ⟨c34, hw⟩ := wp_ck hw
          refine G_getI fl_X11_token w_1399 dX11_reads_52 c34 ?_
          refine G_iconst (v := (2 : Int32)) dX11_reads_55 (by decide) ?_
          have hw := wp_if hw
          refine G_icmp_eq (tgt := 65) dX11_reads_56 rfl (fun c35 => ?_) (fun c35 => ?_)
          · have hw := hw.1 c35
            refine G.less [some (.ref l0), some (.int l1), some (.int l2), some (.int r22), some (.int r25), some (.int r28)] ⟨rfl, ⟨rfl, ⟨rfl, ⟨rfl, ⟨rfl, ⟨rfl, trivial⟩⟩⟩⟩⟩⟩ ?_
            exact f_X11_reads_65_ok hs hK_11 _ _ _ _ _ _ h29 Q hw
          · have hw := hw.2 c35
            refine G_aload_n dX11_reads_59 rfl ?_
            refine G_iconst (v := (1 : Int32)) dX11_reads_60 (by decide) ?_
            refine G_callV (As := [.int (1 : Int32)]) (s_X11_fails hs l0 (1 : Int32) h29 _ (wp_cl hw)) ca_X11_fails w_1635 w_50 (ci := 10) rfl (by decide) w_1633 c34 (Nat.le_of_ble_eq_true rfl) (Nat.le_of_ble_eq_true rfl) rfl (Nat.le_of_ble_eq_true rfl) (Nat.le_of_ble_eq_true rfl) (Nat.le_of_ble_eq_true rfl) dX11_reads_61 rfl (fun v h37 hq => ?_)
            obtain ⟨r36, rfl, hw⟩ := hq
            refine G.cse (cs' := (0, 0)) rfl ?_
            show GZ _ _ _ _ _ _ _ 64 _ (.int r36 :: []) _ _
            obtain ⟨c38, hw⟩ := wp_ck hw
            exact G_zreturn rfl dX11_reads_64 (g_nb c38) ⟨_, rfl, wp_ret hw⟩
theorem f_X11_reads_11_ok {Γ : GX} (hs : SF Γ) {N : Nat} : ∀ (n : Nat) (l0 : Nat) (l1 : Int32) (l2 : Int32) (h : PH) (Q : Int32 → PH → Prop), wp (f_X11_reads_11 N n l0 l1 l2 h) Q → G Γ yX11_reads cX11_reads 6 (some .boolean) (3, 0, 0) 11 [some (.ref l0), some (.int l1), some (.int l2), none, none, none] [] h (0, 0) (q_i Q)
  | 0, _, _, _, _, Q, hw => (wp_no hw).elim
  | n + 1, l0, l1, l2, h, Q, hw => f_X11_reads_11_bok (N := N) hs (f_X11_reads_11_ok (N := N) hs n) l0 l1 l2 h Q hw
set_option maxHeartbeats 4000000 in
set_option maxRecDepth 100000 in
theorem s_X11_reads {Γ : GX} (hs : SF Γ) {N : Nat} (l0 : Nat) (h : PH) (Q : Int32 → PH → Prop) (hw : wp (f_X11_reads N l0 h) Q) : Spec Γ yX11_reads cX11_reads 6 (some .boolean) (3, 0, 0) [.ref l0] h (q_i Q) := by
  refine Spec.of (by decide) (Nat.le_of_ble_eq_true rfl) [some (.ref l0), none, none, none, none, none] rfl ?_
  unfold f_X11_reads at hw
  refine G_iconst (v := (0 : Int32)) dX11_reads_0 (by decide) ?_
  refine G_istore_n (lv' := [some (.ref l0), some (.int (0 : Int32)), none, none, none, none]) dX11_reads_1 (Nat.le_of_ble_eq_true rfl) rfl ?_
  refine G_iconst (v := (1 : Int32)) dX11_reads_2 (by decide) ?_
  refine G_istore_n (lv' := [some (.ref l0), some (.int (0 : Int32)), some (.int (1 : Int32)), none, none, none]) dX11_reads_3 (Nat.le_of_ble_eq_true rfl) rfl ?_
  refine G_aload_n dX11_reads_4 rfl ?_
  obtain ⟨c1, hw⟩ := wp_ck hw
  refine G_getR fl_X11_compared w_1419 dX11_reads_5 c1 ?_
  obtain ⟨a2, ea2, hw⟩ := wp_rq hw
  refine G.sure ea2 ?_
  refine G_iconst (v := (0 : Int32)) dX11_reads_8 (by decide) ?_
  refine G_iconst (v := (0 : Int32)) dX11_reads_9 (by decide) ?_
  obtain ⟨c3, hw⟩ := wp_ck hw
  obtain ⟨c4, hw⟩ := wp_ck hw
  refine G_zastoreK (k := 0) dX11_reads_10 c3 (by decide) rfl c4 ?_
  refine G.nmh fun h5 eh5 => ?_
  have hw := wp_bd hw h5 eh5
  refine G.less [some (.ref l0), some (.int (0 : Int32)), some (.int (1 : Int32)), none, none, none] ⟨rfl, ⟨rfl, ⟨rfl, trivial⟩⟩⟩ ?_
  exact f_X11_reads_11_ok hs N _ _ _ h5 Q hw
set_option maxHeartbeats 4000000 in
set_option maxRecDepth 100000 in
theorem s_X11_opens {Γ : GX} (hs : SF Γ) {N : Nat} (l0 : Nat) (l1 : Int32) (h : PH) (Q : Unit → PH → Prop) (hw : wp (f_X11_opens N l0 l1 h) Q) : Spec Γ yX11_opens cX11_opens 2 none (1, 0, 0) [.ref l0, .int l1] h (q_u Q) := by
  refine Spec.of (by decide) (Nat.le_of_ble_eq_true rfl) [some (.ref l0), some (.int l1)] rfl ?_
  unfold f_X11_opens at hw
  refine G_aload_n dX11_opens_0 rfl ?_
  obtain ⟨c1, hw⟩ := wp_ck hw
  refine G_getR fl_X11_keptBy w_1421 dX11_opens_1 c1 ?_
  obtain ⟨a2, ea2, hw⟩ := wp_rq hw
  refine G.sure ea2 ?_
  refine G_iload_n dX11_opens_4 rfl ?_
  refine G_iconst (v := (0 : Int32)) dX11_opens_5 (by decide) ?_
  obtain ⟨c3, hw⟩ := wp_ck hw
  obtain ⟨c4, hw⟩ := wp_ck hw
  refine G_iastore dX11_opens_6 c3 c4 ?_
  refine G.nmh fun h5 eh5 => ?_
  have hw := wp_bd hw h5 eh5
  refine G_aload_n dX11_opens_7 rfl ?_
  obtain ⟨c6, hw⟩ := wp_ck hw
  refine G_getR fl_X11_against w_1423 dX11_opens_8 c6 ?_
  obtain ⟨a7, ea7, hw⟩ := wp_rq hw
  refine G.sure ea7 ?_
  refine G_iload_n dX11_opens_11 rfl ?_
  refine G_iconst (v := (0 : Int32)) dX11_opens_12 (by decide) ?_
  obtain ⟨c8, hw⟩ := wp_ck hw
  obtain ⟨c9, hw⟩ := wp_ck hw
  refine G_iastore dX11_opens_13 c8 c9 ?_
  refine G.nmh fun h10 eh10 => ?_
  have hw := wp_bd hw h10 eh10
  refine G_aload_n dX11_opens_14 rfl ?_
  obtain ⟨c11, hw⟩ := wp_ck hw
  refine G_getR fl_X11_sum w_1424 dX11_opens_15 c11 ?_
  obtain ⟨a12, ea12, hw⟩ := wp_rq hw
  refine G.sure ea12 ?_
  refine G_iload_n dX11_opens_18 rfl ?_
  refine G_iconst (v := (0 : Int32)) dX11_opens_19 (by decide) ?_
  obtain ⟨c13, hw⟩ := wp_ck hw
  obtain ⟨c14, hw⟩ := wp_ck hw
  refine G_iastore dX11_opens_20 c13 c14 ?_
  refine G.nmh fun h15 eh15 => ?_
  have hw := wp_bd hw h15 eh15
  refine G_aload_n dX11_opens_21 rfl ?_
  obtain ⟨c16, hw⟩ := wp_ck hw
  refine G_getR fl_X11_sumBy w_1425 dX11_opens_22 c16 ?_
  obtain ⟨a17, ea17, hw⟩ := wp_rq hw
  refine G.sure ea17 ?_
  refine G_iload_n dX11_opens_25 rfl ?_
  refine G_bipush (v := (20 : Int32)) dX11_opens_26 (by decide) ?_
  obtain ⟨c18, hw⟩ := wp_ck hw
  obtain ⟨c19, hw⟩ := wp_ck hw
  refine G_iastore dX11_opens_28 c18 c19 ?_
  refine G.nmh fun h20 eh20 => ?_
  have hw := wp_bd hw h20 eh20
  refine G_aload_n dX11_opens_29 rfl ?_
  obtain ⟨c21, hw⟩ := wp_ck hw
  refine G_getR fl_X11_termBy w_1427 dX11_opens_30 c21 ?_
  obtain ⟨a22, ea22, hw⟩ := wp_rq hw
  refine G.sure ea22 ?_
  refine G_iload_n dX11_opens_33 rfl ?_
  refine G_iconst (v := (0 : Int32)) dX11_opens_34 (by decide) ?_
  obtain ⟨c23, hw⟩ := wp_ck hw
  obtain ⟨c24, hw⟩ := wp_ck hw
  refine G_iastore dX11_opens_35 c23 c24 ?_
  refine G.nmh fun h25 eh25 => ?_
  have hw := wp_bd hw h25 eh25
  exact G_vreturn rfl dX11_opens_36 ⟨rfl, wp_ret hw⟩
set_option maxHeartbeats 4000000 in
set_option maxRecDepth 100000 in
theorem f_X11_sums_45_ok {Γ : GX} (hs : SF Γ) {N : Nat} (s0 : Int32) (s1 : Int32) (s2 : Nat) (l0 : Nat) (l1 : Int32) (h : PH) (Q : Unit → PH → Prop) (hw : wp (f_X11_sums_45 N s0 s1 s2 l0 l1 h) Q) : G Γ yX11_sums cX11_sums 2 none (1, 0, 0) 45 [some (.ref l0), some (.int l1)] [.int s0, .int s1, .ref s2] h (0, 0) (q_u Q) := by
  unfold f_X11_sums_45 at hw
  obtain ⟨c1, hw⟩ := wp_ck hw
  obtain ⟨c2, hw⟩ := wp_ck hw
  refine G_iastore dX11_sums_45 c1 c2 ?_
  refine G.nmh fun h3 eh3 => ?_
  have hw := wp_bd hw h3 eh3
  refine G_aload_n dX11_sums_46 rfl ?_
  obtain ⟨c4, hw⟩ := wp_ck hw
  refine G_getR fl_X11_termBy w_1427 dX11_sums_47 c4 ?_
  obtain ⟨a5, ea5, hw⟩ := wp_rq hw
  refine G.sure ea5 ?_
  refine G_iload_n dX11_sums_50 rfl ?_
  refine G_iconst (v := (0 : Int32)) dX11_sums_51 (by decide) ?_
  obtain ⟨c6, hw⟩ := wp_ck hw
  obtain ⟨c7, hw⟩ := wp_ck hw
  refine G_iastore dX11_sums_52 c6 c7 ?_
  refine G.nmh fun h8 eh8 => ?_
  have hw := wp_bd hw h8 eh8
  exact G_vreturn rfl dX11_sums_53 ⟨rfl, wp_ret hw⟩
set_option maxHeartbeats 4000000 in
set_option maxRecDepth 100000 in
theorem s_X11_sums {Γ : GX} (hs : SF Γ) {N : Nat} (l0 : Nat) (l1 : Int32) (h : PH) (Q : Unit → PH → Prop) (hw : wp (f_X11_sums N l0 l1 h) Q) : Spec Γ yX11_sums cX11_sums 2 none (1, 0, 0) [.ref l0, .int l1] h (q_u Q) := by
  refine Spec.of (by decide) (Nat.le_of_ble_eq_true rfl) [some (.ref l0), some (.int l1)] rfl ?_
  unfold f_X11_sums at hw
  refine G_aload_n dX11_sums_0 rfl ?_
  obtain ⟨c1, hw⟩ := wp_ck hw
  refine G_getR fl_X11_sum w_1424 dX11_sums_1 c1 ?_
  obtain ⟨a2, ea2, hw⟩ := wp_rq hw
  refine G.sure ea2 ?_
  refine G_iload_n dX11_sums_4 rfl ?_
  refine G_aload_n dX11_sums_5 rfl ?_
  refine G_getR fl_X11_sumBy w_1425 dX11_sums_6 c1 ?_
  obtain ⟨a3, ea3, hw⟩ := wp_rq hw
  refine G.sure ea3 ?_
  refine G_iload_n dX11_sums_9 rfl ?_
  obtain ⟨c4, hw⟩ := wp_ck hw
  obtain ⟨c5, hw⟩ := wp_ck hw
  refine G_iaload dX11_sums_10 c4 c5 ?_
  refine G_bipush (v := (21 : Int32)) dX11_sums_11 (by decide) ?_
  have hw := wp_if hw
  refine G_icmp_ne (tgt := 32) dX11_sums_13 rfl (fun c6 => ?_) (fun c6 => ?_)
  · have hw := hw.2 c6
    refine G_aload_n dX11_sums_32 rfl ?_
    refine G_getR fl_X11_sum w_1424 dX11_sums_33 c1 ?_
    obtain ⟨a7, ea7, hw⟩ := wp_rq hw
    refine G.sure ea7 ?_
    refine G_iload_n dX11_sums_36 rfl ?_
    obtain ⟨c8, hw⟩ := wp_ck hw
    obtain ⟨c9, hw⟩ := wp_ck hw
    refine G_iaload dX11_sums_37 c8 c9 ?_
    refine G_aload_n dX11_sums_38 rfl ?_
    refine G_getR fl_X11_term w_1426 dX11_sums_39 c1 ?_
    obtain ⟨a10, ea10, hw⟩ := wp_rq hw
    refine G.sure ea10 ?_
    refine G_iload_n dX11_sums_42 rfl ?_
    obtain ⟨c11, hw⟩ := wp_ck hw
    obtain ⟨c12, hw⟩ := wp_ck hw
    refine G_iaload dX11_sums_43 c11 c12 ?_
    refine G_iadd dX11_sums_44 ?_
    refine G.less [some (.ref l0), some (.int l1)] ⟨rfl, ⟨rfl, trivial⟩⟩ ?_
    exact f_X11_sums_45_ok hs _ _ _ _ _ h Q hw
  · have hw := hw.1 c6
    refine G_aload_n dX11_sums_16 rfl ?_
    refine G_getR fl_X11_sum w_1424 dX11_sums_17 c1 ?_
    obtain ⟨a13, ea13, hw⟩ := wp_rq hw
    refine G.sure ea13 ?_
    refine G_iload_n dX11_sums_20 rfl ?_
    obtain ⟨c14, hw⟩ := wp_ck hw
    obtain ⟨c15, hw⟩ := wp_ck hw
    refine G_iaload dX11_sums_21 c14 c15 ?_
    refine G_aload_n dX11_sums_22 rfl ?_
    refine G_getR fl_X11_term w_1426 dX11_sums_23 c1 ?_
    obtain ⟨a16, ea16, hw⟩ := wp_rq hw
    refine G.sure ea16 ?_
    refine G_iload_n dX11_sums_26 rfl ?_
    obtain ⟨c17, hw⟩ := wp_ck hw
    obtain ⟨c18, hw⟩ := wp_ck hw
    refine G_iaload dX11_sums_27 c17 c18 ?_
    refine G_isub dX11_sums_28 ?_
    refine G_goto (tgt := 45) dX11_sums_29 rfl ?_
    refine G.less [some (.ref l0), some (.int l1)] ⟨rfl, ⟨rfl, trivial⟩⟩ ?_
    exact f_X11_sums_45_ok hs _ _ _ _ _ h Q hw
set_option maxHeartbeats 4000000 in
set_option maxRecDepth 100000 in
theorem f_X11_tests_136_ok {Γ : GX} (hs : SF Γ) {N : Nat} (l0 : Nat) (l1 : Int32) (l2 : Int32) (h : PH) (Q : Unit → PH → Prop) (hw : wp (f_X11_tests_136 N l0 l1 l2 h) Q) : G Γ yX11_tests cX11_tests 3 none (2, 0, 0) 136 [some (.ref l0), some (.int l1), some (.int l2)] [] h (0, 0) (q_u Q) := by
  unfold f_X11_tests_136 at hw
  refine G_aload_n dX11_tests_136 rfl ?_
  obtain ⟨c1, hw⟩ := wp_ck hw
  refine G_getR fl_X11_kept w_1420 dX11_tests_137 c1 ?_
  obtain ⟨a2, ea2, hw⟩ := wp_rq hw
  refine G.sure ea2 ?_
  refine G_iload_n dX11_tests_140 rfl ?_
  refine G_iload_n dX11_tests_141 rfl ?_
  obtain ⟨c3, hw⟩ := wp_ck hw
  obtain ⟨c4, hw⟩ := wp_ck hw
  refine G_iastore dX11_tests_142 c3 c4 ?_
  refine G.nmh fun h5 eh5 => ?_
  have hw := wp_bd hw h5 eh5
  refine G_aload_n dX11_tests_143 rfl ?_
  obtain ⟨c6, hw⟩ := wp_ck hw
  refine G_getR fl_X11_against w_1423 dX11_tests_144 c6 ?_
  obtain ⟨a7, ea7, hw⟩ := wp_rq hw
  refine G.sure ea7 ?_
  refine G_iload_n dX11_tests_147 rfl ?_
  refine G_iconst (v := (0 : Int32)) dX11_tests_148 (by decide) ?_
  obtain ⟨c8, hw⟩ := wp_ck hw
  obtain ⟨c9, hw⟩ := wp_ck hw
  refine G_iastore dX11_tests_149 c8 c9 ?_
  refine G.nmh fun h10 eh10 => ?_
  have hw := wp_bd hw h10 eh10
  refine G_aload_n dX11_tests_150 rfl ?_
  obtain ⟨c11, hw⟩ := wp_ck hw
  refine G_getR fl_X11_sum w_1424 dX11_tests_151 c11 ?_
  obtain ⟨a12, ea12, hw⟩ := wp_rq hw
  refine G.sure ea12 ?_
  refine G_iload_n dX11_tests_154 rfl ?_
  refine G_iconst (v := (0 : Int32)) dX11_tests_155 (by decide) ?_
  obtain ⟨c13, hw⟩ := wp_ck hw
  obtain ⟨c14, hw⟩ := wp_ck hw
  refine G_iastore dX11_tests_156 c13 c14 ?_
  refine G.nmh fun h15 eh15 => ?_
  have hw := wp_bd hw h15 eh15
  refine G_aload_n dX11_tests_157 rfl ?_
  obtain ⟨c16, hw⟩ := wp_ck hw
  refine G_getR fl_X11_sumBy w_1425 dX11_tests_158 c16 ?_
  obtain ⟨a17, ea17, hw⟩ := wp_rq hw
  refine G.sure ea17 ?_
  refine G_iload_n dX11_tests_161 rfl ?_
  refine G_bipush (v := (20 : Int32)) dX11_tests_162 (by decide) ?_
  obtain ⟨c18, hw⟩ := wp_ck hw
  obtain ⟨c19, hw⟩ := wp_ck hw
  refine G_iastore dX11_tests_164 c18 c19 ?_
  refine G.nmh fun h20 eh20 => ?_
  have hw := wp_bd hw h20 eh20
  exact G_vreturn rfl dX11_tests_165 ⟨rfl, wp_ret hw⟩
set_option maxHeartbeats 4000000 in
set_option maxRecDepth 100000 in
theorem f_X11_tests_135_ok {Γ : GX} (hs : SF Γ) {N : Nat} (s0 : Int32) (l0 : Nat) (l1 : Int32) (h : PH) (Q : Unit → PH → Prop) (hw : wp (f_X11_tests_135 N s0 l0 l1 h) Q) : G Γ yX11_tests cX11_tests 3 none (2, 0, 0) 135 [some (.ref l0), some (.int l1), none] [.int s0] h (0, 0) (q_u Q) := by
  unfold f_X11_tests_135 at hw
  refine G_istore_n (lv' := [some (.ref l0), some (.int l1), some (.int s0)]) dX11_tests_135 (Nat.le_of_ble_eq_true rfl) rfl ?_
  refine G.less [some (.ref l0), some (.int l1), some (.int s0)] ⟨rfl, ⟨rfl, ⟨rfl, trivial⟩⟩⟩ ?_
  exact f_X11_tests_136_ok hs _ _ _ h Q hw
set_option maxHeartbeats 4000000 in
set_option maxRecDepth 100000 in
theorem f_X11_tests_130_ok {Γ : GX} (hs : SF Γ) {N : Nat} (l0 : Nat) (l1 : Int32) (h : PH) (Q : Unit → PH → Prop) (hw : wp (f_X11_tests_130 N l0 l1 h) Q) : G Γ yX11_tests cX11_tests 3 none (2, 0, 0) 130 [some (.ref l0), some (.int l1), none] [] h (0, 0) (q_u Q) := by
  unfold f_X11_tests_130 at hw
  refine G_iconst (v := (1 : Int32)) dX11_tests_130 (by decide) ?_
  refine G_goto (tgt := 135) dX11_tests_131 rfl ?_
  refine G.less [some (.ref l0), some (.int l1), none] ⟨rfl, ⟨rfl, trivial⟩⟩ ?_
  exact f_X11_tests_135_ok hs _ _ _ h Q hw
set_option maxHeartbeats 4000000 in
set_option maxRecDepth 100000 in
theorem f_X11_tests_106_ok {Γ : GX} (hs : SF Γ) {N : Nat} (l0 : Nat) (l1 : Int32) (l2 : Int32) (h : PH) (Q : Unit → PH → Prop) (hw : wp (f_X11_tests_106 N l0 l1 l2 h) Q) : G Γ yX11_tests cX11_tests 3 none (2, 0, 0) 106 [some (.ref l0), some (.int l1), some (.int l2)] [] h (0, 0) (q_u Q) := by
  unfold f_X11_tests_106 at hw
  refine G_aload_n dX11_tests_106 rfl ?_
  obtain ⟨c1, hw⟩ := wp_ck hw
  refine G_getR fl_X11_keptBy w_1421 dX11_tests_107 c1 ?_
  obtain ⟨a2, ea2, hw⟩ := wp_rq hw
  refine G.sure ea2 ?_
  refine G_iload_n dX11_tests_110 rfl ?_
  obtain ⟨c3, hw⟩ := wp_ck hw
  obtain ⟨c4, hw⟩ := wp_ck hw
  refine G_iaload dX11_tests_111 c3 c4 ?_
  refine G_bipush (v := (27 : Int32)) dX11_tests_112 (by decide) ?_
  have hw := wp_if hw
  refine G_icmp_ne (tgt := 136) dX11_tests_114 rfl (fun c5 => ?_) (fun c5 => ?_)
  · have hw := hw.2 c5
    refine G.less [some (.ref l0), some (.int l1), some (.int l2)] ⟨rfl, ⟨rfl, ⟨rfl, trivial⟩⟩⟩ ?_
    exact f_X11_tests_136_ok hs _ _ _ h Q hw
  · have hw := hw.1 c5
    refine G_aload_n dX11_tests_117 rfl ?_
    refine G_getR fl_X11_kept w_1420 dX11_tests_118 c1 ?_
    obtain ⟨a6, ea6, hw⟩ := wp_rq hw
    refine G.sure ea6 ?_
    refine G_iload_n dX11_tests_121 rfl ?_
    obtain ⟨c7, hw⟩ := wp_ck hw
    obtain ⟨c8, hw⟩ := wp_ck hw
    refine G_iaload dX11_tests_122 c7 c8 ?_
    have hw := wp_if hw
    refine G_if_ne (tgt := 130) dX11_tests_123 rfl (fun c9 => ?_) (fun c9 => ?_)
    · have hw := hw.2 c9
      refine G.less [some (.ref l0), some (.int l1), none] ⟨rfl, ⟨rfl, trivial⟩⟩ ?_
      exact f_X11_tests_130_ok hs _ _ h Q hw
    · have hw := hw.1 c9
      refine G_iload_n dX11_tests_126 rfl ?_
      have hw := wp_if hw
      refine G_if_eq (tgt := 134) dX11_tests_127 rfl (fun c10 => ?_) (fun c10 => ?_)
      · have hw := hw.1 c10
        refine G_iconst (v := (0 : Int32)) dX11_tests_134 (by decide) ?_
        refine G.less [some (.ref l0), some (.int l1), none] ⟨rfl, ⟨rfl, trivial⟩⟩ ?_
        exact f_X11_tests_135_ok hs _ _ _ h Q hw
      · have hw := hw.2 c10
        refine G.less [some (.ref l0), some (.int l1), none] ⟨rfl, ⟨rfl, trivial⟩⟩ ?_
        exact f_X11_tests_130_ok hs _ _ h Q hw
set_option maxHeartbeats 4000000 in
set_option maxRecDepth 100000 in
theorem f_X11_tests_105_ok {Γ : GX} (hs : SF Γ) {N : Nat} (s0 : Int32) (l0 : Nat) (l1 : Int32) (h : PH) (Q : Unit → PH → Prop) (hw : wp (f_X11_tests_105 N s0 l0 l1 h) Q) : G Γ yX11_tests cX11_tests 3 none (2, 0, 0) 105 [some (.ref l0), some (.int l1), none] [.int s0] h (0, 0) (q_u Q) := by
  unfold f_X11_tests_105 at hw
  refine G_istore_n (lv' := [some (.ref l0), some (.int l1), some (.int s0)]) dX11_tests_105 (Nat.le_of_ble_eq_true rfl) rfl ?_
  refine G.less [some (.ref l0), some (.int l1), some (.int s0)] ⟨rfl, ⟨rfl, ⟨rfl, trivial⟩⟩⟩ ?_
  exact f_X11_tests_106_ok hs _ _ _ h Q hw
set_option maxHeartbeats 4000000 in
set_option maxRecDepth 100000 in
theorem f_X11_tests_104_ok {Γ : GX} (hs : SF Γ) {N : Nat} (l0 : Nat) (l1 : Int32) (h : PH) (Q : Unit → PH → Prop) (hw : wp (f_X11_tests_104 N l0 l1 h) Q) : G Γ yX11_tests cX11_tests 3 none (2, 0, 0) 104 [some (.ref l0), some (.int l1), none] [] h (0, 0) (q_u Q) := by
  unfold f_X11_tests_104 at hw
  refine G_iconst (v := (0 : Int32)) dX11_tests_104 (by decide) ?_
  refine G.less [some (.ref l0), some (.int l1), none] ⟨rfl, ⟨rfl, trivial⟩⟩ ?_
  exact f_X11_tests_105_ok hs _ _ _ h Q hw
set_option maxHeartbeats 4000000 in
set_option maxRecDepth 100000 in
theorem f_X11_tests_76_ok {Γ : GX} (hs : SF Γ) {N : Nat} (l0 : Nat) (l1 : Int32) (l2 : Int32) (h : PH) (Q : Unit → PH → Prop) (hw : wp (f_X11_tests_76 N l0 l1 l2 h) Q) : G Γ yX11_tests cX11_tests 3 none (2, 0, 0) 76 [some (.ref l0), some (.int l1), some (.int l2)] [] h (0, 0) (q_u Q) := by
  unfold f_X11_tests_76 at hw
  refine G_aload_n dX11_tests_76 rfl ?_
  obtain ⟨c1, hw⟩ := wp_ck hw
  refine G_getR fl_X11_keptBy w_1421 dX11_tests_77 c1 ?_
  obtain ⟨a2, ea2, hw⟩ := wp_rq hw
  refine G.sure ea2 ?_
  refine G_iload_n dX11_tests_80 rfl ?_
  obtain ⟨c3, hw⟩ := wp_ck hw
  obtain ⟨c4, hw⟩ := wp_ck hw
  refine G_iaload dX11_tests_81 c3 c4 ?_
  refine G_bipush (v := (26 : Int32)) dX11_tests_82 (by decide) ?_
  have hw := wp_if hw
  refine G_icmp_ne (tgt := 106) dX11_tests_84 rfl (fun c5 => ?_) (fun c5 => ?_)
  · have hw := hw.2 c5
    refine G.less [some (.ref l0), some (.int l1), some (.int l2)] ⟨rfl, ⟨rfl, ⟨rfl, trivial⟩⟩⟩ ?_
    exact f_X11_tests_106_ok hs _ _ _ h Q hw
  · have hw := hw.1 c5
    refine G_aload_n dX11_tests_87 rfl ?_
    refine G_getR fl_X11_kept w_1420 dX11_tests_88 c1 ?_
    obtain ⟨a6, ea6, hw⟩ := wp_rq hw
    refine G.sure ea6 ?_
    refine G_iload_n dX11_tests_91 rfl ?_
    obtain ⟨c7, hw⟩ := wp_ck hw
    obtain ⟨c8, hw⟩ := wp_ck hw
    refine G_iaload dX11_tests_92 c7 c8 ?_
    have hw := wp_if hw
    refine G_if_eq (tgt := 104) dX11_tests_93 rfl (fun c9 => ?_) (fun c9 => ?_)
    · have hw := hw.1 c9
      refine G.less [some (.ref l0), some (.int l1), none] ⟨rfl, ⟨rfl, trivial⟩⟩ ?_
      exact f_X11_tests_104_ok hs _ _ h Q hw
    · have hw := hw.2 c9
      refine G_iload_n dX11_tests_96 rfl ?_
      have hw := wp_if hw
      refine G_if_eq (tgt := 104) dX11_tests_97 rfl (fun c10 => ?_) (fun c10 => ?_)
      · have hw := hw.1 c10
        refine G.less [some (.ref l0), some (.int l1), none] ⟨rfl, ⟨rfl, trivial⟩⟩ ?_
        exact f_X11_tests_104_ok hs _ _ h Q hw
      · have hw := hw.2 c10
        refine G_iconst (v := (1 : Int32)) dX11_tests_100 (by decide) ?_
        refine G_goto (tgt := 105) dX11_tests_101 rfl ?_
        refine G.less [some (.ref l0), some (.int l1), none] ⟨rfl, ⟨rfl, trivial⟩⟩ ?_
        exact f_X11_tests_105_ok hs _ _ _ h Q hw
set_option maxHeartbeats 4000000 in
set_option maxRecDepth 100000 in
theorem f_X11_tests_75_ok {Γ : GX} (hs : SF Γ) {N : Nat} (s0 : Int32) (l0 : Nat) (l1 : Int32) (h : PH) (Q : Unit → PH → Prop) (hw : wp (f_X11_tests_75 N s0 l0 l1 h) Q) : G Γ yX11_tests cX11_tests 3 none (2, 0, 0) 75 [some (.ref l0), some (.int l1), none] [.int s0] h (0, 0) (q_u Q) := by
  unfold f_X11_tests_75 at hw
  refine G_istore_n (lv' := [some (.ref l0), some (.int l1), some (.int s0)]) dX11_tests_75 (Nat.le_of_ble_eq_true rfl) rfl ?_
  refine G.less [some (.ref l0), some (.int l1), some (.int s0)] ⟨rfl, ⟨rfl, ⟨rfl, trivial⟩⟩⟩ ?_
  exact f_X11_tests_76_ok hs _ _ _ h Q hw
set_option maxHeartbeats 4000000 in
set_option maxRecDepth 100000 in
theorem f_X11_tests_44_ok {Γ : GX} (hs : SF Γ) {N : Nat} (l0 : Nat) (l1 : Int32) (l2 : Int32) (h : PH) (Q : Unit → PH → Prop) (hw : wp (f_X11_tests_44 N l0 l1 l2 h) Q) : G Γ yX11_tests cX11_tests 3 none (2, 0, 0) 44 [some (.ref l0), some (.int l1), some (.int l2)] [] h (0, 0) (q_u Q) := by
  unfold f_X11_tests_44 at hw
  refine G_aload_n dX11_tests_44 rfl ?_
  obtain ⟨c1, hw⟩ := wp_ck hw
  refine G_getR fl_X11_against w_1423 dX11_tests_45 c1 ?_
  obtain ⟨a2, ea2, hw⟩ := wp_rq hw
  refine G.sure ea2 ?_
  refine G_iload_n dX11_tests_48 rfl ?_
  obtain ⟨c3, hw⟩ := wp_ck hw
  obtain ⟨c4, hw⟩ := wp_ck hw
  refine G_iaload dX11_tests_49 c3 c4 ?_
  refine G_bipush (v := (25 : Int32)) dX11_tests_50 (by decide) ?_
  have hw := wp_if hw
  refine G_icmp_ne (tgt := 76) dX11_tests_52 rfl (fun c5 => ?_) (fun c5 => ?_)
  · have hw := hw.2 c5
    refine G.less [some (.ref l0), some (.int l1), some (.int l2)] ⟨rfl, ⟨rfl, ⟨rfl, trivial⟩⟩⟩ ?_
    exact f_X11_tests_76_ok hs _ _ _ h Q hw
  · have hw := hw.1 c5
    refine G_aload_n dX11_tests_55 rfl ?_
    refine G_getR fl_X11_ahead w_1422 dX11_tests_56 c1 ?_
    obtain ⟨a6, ea6, hw⟩ := wp_rq hw
    refine G.sure ea6 ?_
    refine G_iload_n dX11_tests_59 rfl ?_
    obtain ⟨c7, hw⟩ := wp_ck hw
    obtain ⟨c8, hw⟩ := wp_ck hw
    refine G_iaload dX11_tests_60 c7 c8 ?_
    refine G_aload_n dX11_tests_61 rfl ?_
    refine G_getR fl_X11_sum w_1424 dX11_tests_62 c1 ?_
    obtain ⟨a9, ea9, hw⟩ := wp_rq hw
    refine G.sure ea9 ?_
    refine G_iload_n dX11_tests_65 rfl ?_
    obtain ⟨c10, hw⟩ := wp_ck hw
    obtain ⟨c11, hw⟩ := wp_ck hw
    refine G_iaload dX11_tests_66 c10 c11 ?_
    have hw := wp_if hw
    refine G_icmp_ne (tgt := 74) dX11_tests_67 rfl (fun c12 => ?_) (fun c12 => ?_)
    · have hw := hw.2 c12
      refine G_iconst (v := (0 : Int32)) dX11_tests_74 (by decide) ?_
      refine G.less [some (.ref l0), some (.int l1), none] ⟨rfl, ⟨rfl, trivial⟩⟩ ?_
      exact f_X11_tests_75_ok hs _ _ _ h Q hw
    · have hw := hw.1 c12
      refine G_iconst (v := (1 : Int32)) dX11_tests_70 (by decide) ?_
      refine G_goto (tgt := 75) dX11_tests_71 rfl ?_
      refine G.less [some (.ref l0), some (.int l1), none] ⟨rfl, ⟨rfl, trivial⟩⟩ ?_
      exact f_X11_tests_75_ok hs _ _ _ h Q hw
set_option maxHeartbeats 4000000 in
set_option maxRecDepth 100000 in
theorem f_X11_tests_43_ok {Γ : GX} (hs : SF Γ) {N : Nat} (s0 : Int32) (l0 : Nat) (l1 : Int32) (h : PH) (Q : Unit → PH → Prop) (hw : wp (f_X11_tests_43 N s0 l0 l1 h) Q) : G Γ yX11_tests cX11_tests 3 none (2, 0, 0) 43 [some (.ref l0), some (.int l1), none] [.int s0] h (0, 0) (q_u Q) := by
  unfold f_X11_tests_43 at hw
  refine G_istore_n (lv' := [some (.ref l0), some (.int l1), some (.int s0)]) dX11_tests_43 (Nat.le_of_ble_eq_true rfl) rfl ?_
  refine G.less [some (.ref l0), some (.int l1), some (.int s0)] ⟨rfl, ⟨rfl, ⟨rfl, trivial⟩⟩⟩ ?_
  exact f_X11_tests_44_ok hs _ _ _ h Q hw
set_option maxHeartbeats 4000000 in
set_option maxRecDepth 100000 in
theorem s_X11_tests {Γ : GX} (hs : SF Γ) {N : Nat} (l0 : Nat) (l1 : Int32) (h : PH) (Q : Unit → PH → Prop) (hw : wp (f_X11_tests N l0 l1 h) Q) : Spec Γ yX11_tests cX11_tests 3 none (2, 0, 0) [.ref l0, .int l1] h (q_u Q) := by
  refine Spec.of (by decide) (Nat.le_of_ble_eq_true rfl) [some (.ref l0), some (.int l1), none] rfl ?_
  unfold f_X11_tests at hw
  refine G_aload_n dX11_tests_0 rfl ?_
  refine G_iload_n dX11_tests_1 rfl ?_
  obtain ⟨c3, hw⟩ := wp_ck hw
  refine G_callV (As := [.int l1]) (s_X11_sums hs l0 l1 h _ (wp_cl hw)) ca_X11_sums w_1826 w_86 (ci := 10) rfl (by decide) w_1824 c3 (Nat.le_of_ble_eq_true rfl) (Nat.le_of_ble_eq_true rfl) rfl (Nat.le_of_ble_eq_true rfl) (Nat.le_of_ble_eq_true rfl) (Nat.le_of_ble_eq_true rfl) dX11_tests_2 rfl (fun v h2 hq => ?_)
  obtain ⟨rfl, hw⟩ := hq
  refine G.cse (cs' := (0, 0)) rfl ?_
  show GZ _ _ _ _ _ _ _ 5 _ [] _ _
  refine G_aload_n dX11_tests_5 rfl ?_
  obtain ⟨c4, hw⟩ := wp_ck hw
  refine G_getR fl_X11_sum w_1424 dX11_tests_6 c4 ?_
  obtain ⟨a5, ea5, hw⟩ := wp_rq hw
  refine G.sure ea5 ?_
  refine G_iload_n dX11_tests_9 rfl ?_
  obtain ⟨c6, hw⟩ := wp_ck hw
  obtain ⟨c7, hw⟩ := wp_ck hw
  refine G_iaload dX11_tests_10 c6 c7 ?_
  refine G.topi fun v8 ev8 => ?_
  have hw := wp_bd hw v8 ev8
  refine G_istore_n (lv' := [some (.ref l0), some (.int l1), some (.int v8)]) dX11_tests_11 (Nat.le_of_ble_eq_true rfl) rfl ?_
  refine G_aload_n dX11_tests_12 rfl ?_
  refine G_getR fl_X11_against w_1423 dX11_tests_13 c4 ?_
  obtain ⟨a9, ea9, hw⟩ := wp_rq hw
  refine G.sure ea9 ?_
  refine G_iload_n dX11_tests_16 rfl ?_
  obtain ⟨c10, hw⟩ := wp_ck hw
  obtain ⟨c11, hw⟩ := wp_ck hw
  refine G_iaload dX11_tests_17 c10 c11 ?_
  refine G_bipush (v := (24 : Int32)) dX11_tests_18 (by decide) ?_
  have hw := wp_if hw
  refine G_icmp_ne (tgt := 44) dX11_tests_20 rfl (fun c12 => ?_) (fun c12 => ?_)
  · have hw := hw.2 c12
    refine G.less [some (.ref l0), some (.int l1), some (.int v8)] ⟨rfl, ⟨rfl, ⟨rfl, trivial⟩⟩⟩ ?_
    exact f_X11_tests_44_ok hs _ _ _ h2 Q hw
  · have hw := hw.1 c12
    refine G_aload_n dX11_tests_23 rfl ?_
    refine G_getR fl_X11_ahead w_1422 dX11_tests_24 c4 ?_
    obtain ⟨a13, ea13, hw⟩ := wp_rq hw
    refine G.sure ea13 ?_
    refine G_iload_n dX11_tests_27 rfl ?_
    obtain ⟨c14, hw⟩ := wp_ck hw
    obtain ⟨c15, hw⟩ := wp_ck hw
    refine G_iaload dX11_tests_28 c14 c15 ?_
    refine G_aload_n dX11_tests_29 rfl ?_
    refine G_getR fl_X11_sum w_1424 dX11_tests_30 c4 ?_
    obtain ⟨a16, ea16, hw⟩ := wp_rq hw
    refine G.sure ea16 ?_
    refine G_iload_n dX11_tests_33 rfl ?_
    obtain ⟨c17, hw⟩ := wp_ck hw
    obtain ⟨c18, hw⟩ := wp_ck hw
    refine G_iaload dX11_tests_34 c17 c18 ?_
    have hw := wp_if hw
    refine G_icmp_ge (tgt := 42) dX11_tests_35 rfl (fun c19 => ?_) (fun c19 => ?_)
    · have hw := hw.1 c19
      refine G_iconst (v := (0 : Int32)) dX11_tests_42 (by decide) ?_
      refine G.less [some (.ref l0), some (.int l1), none] ⟨rfl, ⟨rfl, trivial⟩⟩ ?_
      exact f_X11_tests_43_ok hs _ _ _ h2 Q hw
    · have hw := hw.2 c19
      refine G_iconst (v := (1 : Int32)) dX11_tests_38 (by decide) ?_
      refine G_goto (tgt := 43) dX11_tests_39 rfl ?_
      refine G.less [some (.ref l0), some (.int l1), none] ⟨rfl, ⟨rfl, trivial⟩⟩ ?_
      exact f_X11_tests_43_ok hs _ _ _ h2 Q hw
set_option maxHeartbeats 4000000 in
set_option maxRecDepth 100000 in
theorem f_X11_worked_329_ok {Γ : GX} (hs : SF Γ) {N : Nat} {K_14 : Nat → Int32 → Int32 → Int32 → PH → Option (Int32 × PH)} (hK_14 : ∀ (l0 : Nat) (l1 : Int32) (l2 : Int32) (l3 : Int32) (h : PH) (Q : Int32 → PH → Prop), wp (K_14 l0 l1 l2 l3 h) Q → G Γ yX11_worked cX11_worked 6 (some .int) (3, 0, 0) 14 [some (.ref l0), some (.int l1), some (.int l2), some (.int l3), none, none] [] h (0, 0) (q_i Q)) (l0 : Nat) (l1 : Int32) (l2 : Int32) (l3 : Int32) (h : PH) (Q : Int32 → PH → Prop) (hw : wp (f_X11_worked_329 N K_14 l0 l1 l2 l3 h) Q) : G Γ yX11_worked cX11_worked 6 (some .int) (3, 0, 0) 329 [some (.ref l0), some (.int l1), some (.int l2), some (.int l3), none, none] [] h (0, 0) (q_i Q) := by
  unfold f_X11_worked_329 at hw
  obtain ⟨v1, ev1⟩ : ∃ z : Int32, z = l3 + (1 : Int32) := ⟨_, rfl⟩
  have hw := wp_bd hw v1 ev1
  refine G_iinc (v := v1) (lv' := [some (.ref l0), some (.int l1), some (.int l2), some (.int v1), none, none]) dX11_worked_329 rfl (by rw [ev1]; rfl) (Nat.le_of_ble_eq_true rfl) rfl ?_
  refine G_goto (tgt := 14) dX11_worked_332 rfl ?_
  refine G.less [some (.ref l0), some (.int l1), some (.int l2), some (.int v1), none, none] ⟨rfl, ⟨rfl, ⟨rfl, ⟨rfl, trivial⟩⟩⟩⟩ ?_
  exact hK_14 _ _ _ _ h Q hw
set_option maxHeartbeats 4000000 in
set_option maxRecDepth 100000 in
theorem f_X11_worked_66_ok {Γ : GX} (hs : SF Γ) {N : Nat} {K_14 : Nat → Int32 → Int32 → Int32 → PH → Option (Int32 × PH)} (hK_14 : ∀ (l0 : Nat) (l1 : Int32) (l2 : Int32) (l3 : Int32) (h : PH) (Q : Int32 → PH → Prop), wp (K_14 l0 l1 l2 l3 h) Q → G Γ yX11_worked cX11_worked 6 (some .int) (3, 0, 0) 14 [some (.ref l0), some (.int l1), some (.int l2), some (.int l3), none, none] [] h (0, 0) (q_i Q)) (s0 : Int32) (s1 : Int32) (s2 : Nat) (l0 : Nat) (l1 : Int32) (l2 : Int32) (l3 : Int32) (h : PH) (Q : Int32 → PH → Prop) (hw : wp (f_X11_worked_66 N K_14 s0 s1 s2 l0 l1 l2 l3 h) Q) : G Γ yX11_worked cX11_worked 6 (some .int) (3, 0, 0) 66 [some (.ref l0), some (.int l1), some (.int l2), some (.int l3), none, none] [.int s0, .int s1, .ref s2] h (0, 0) (q_i Q) := by
  unfold f_X11_worked_66 at hw
  obtain ⟨c1, hw⟩ := wp_ck hw
  obtain ⟨c2, hw⟩ := wp_ck hw
  refine G_iastore dX11_worked_66 c1 c2 ?_
  refine G.nmh fun h3 eh3 => ?_
  have hw := wp_bd hw h3 eh3
  refine G_aload_n dX11_worked_67 rfl ?_
  refine G_iload_n dX11_worked_68 rfl ?_
  obtain ⟨c6, hw⟩ := wp_ck hw
  refine G_callV (As := [.int l2]) (s_X11_opens hs l0 l2 h3 _ (wp_cl hw)) ca_X11_opens w_1822 w_85 (ci := 10) rfl (by decide) w_1820 c6 (Nat.le_of_ble_eq_true rfl) (Nat.le_of_ble_eq_true rfl) rfl (Nat.le_of_ble_eq_true rfl) (Nat.le_of_ble_eq_true rfl) (Nat.le_of_ble_eq_true rfl) dX11_worked_69 rfl (fun v h5 hq => ?_)
  obtain ⟨rfl, hw⟩ := hq
  refine G.cse (cs' := (0, 0)) rfl ?_
  show GZ _ _ _ _ _ _ _ 72 _ [] _ _
  refine G_goto (tgt := 329) dX11_worked_72 rfl ?_
  refine G.less [some (.ref l0), some (.int l1), some (.int l2), some (.int l3), none, none] ⟨rfl, ⟨rfl, ⟨rfl, ⟨rfl, trivial⟩⟩⟩⟩ ?_
  exact f_X11_worked_329_ok hs hK_14 _ _ _ _ h5 Q hw
set_option maxHeartbeats 4000000 in
set_option maxRecDepth 100000 in
theorem f_X11_worked_46_ok {Γ : GX} (hs : SF Γ) {N : Nat} {K_14 : Nat → Int32 → Int32 → Int32 → PH → Option (Int32 × PH)} (hK_14 : ∀ (l0 : Nat) (l1 : Int32) (l2 : Int32) (l3 : Int32) (h : PH) (Q : Int32 → PH → Prop), wp (K_14 l0 l1 l2 l3 h) Q → G Γ yX11_worked cX11_worked 6 (some .int) (3, 0, 0) 14 [some (.ref l0), some (.int l1), some (.int l2), some (.int l3), none, none] [] h (0, 0) (q_i Q)) (l0 : Nat) (l1 : Int32) (l2 : Int32) (l3 : Int32) (l4 : Int32) (h : PH) (Q : Int32 → PH → Prop) (hw : wp (f_X11_worked_46 N K_14 l0 l1 l2 l3 l4 h) Q) : G Γ yX11_worked cX11_worked 6 (some .int) (3, 0, 0) 46 [some (.ref l0), some (.int l1), some (.int l2), some (.int l3), some (.int l4), none] [] h (0, 0) (q_i Q) := by
  unfold f_X11_worked_46 at hw
  obtain ⟨v1, ev1⟩ : ∃ z : Int32, z = l2 + (1 : Int32) := ⟨_, rfl⟩
  have hw := wp_bd hw v1 ev1
  refine G_iinc (v := v1) (lv' := [some (.ref l0), some (.int l1), some (.int v1), some (.int l3), some (.int l4), none]) dX11_worked_46 rfl (by rw [ev1]; rfl) (Nat.le_of_ble_eq_true rfl) rfl ?_
  refine G_aload_n dX11_worked_49 rfl ?_
  obtain ⟨c2, hw⟩ := wp_ck hw
  refine G_getR fl_X11_byNot w_1428 dX11_worked_50 c2 ?_
  obtain ⟨a3, ea3, hw⟩ := wp_rq hw
  refine G.sure ea3 ?_
  refine G_iload_n dX11_worked_53 rfl ?_
  refine G_iload dX11_worked_54 rfl ?_
  refine G_bipush (v := (30 : Int32)) dX11_worked_56 (by decide) ?_
  have hw := wp_if hw
  refine G_icmp_ne (tgt := 65) dX11_worked_58 rfl (fun c4 => ?_) (fun c4 => ?_)
  · have hw := hw.2 c4
    refine G_iconst (v := (0 : Int32)) dX11_worked_65 (by decide) ?_
    refine G.less [some (.ref l0), some (.int l1), some (.int v1), some (.int l3), none, none] ⟨rfl, ⟨rfl, ⟨rfl, ⟨rfl, trivial⟩⟩⟩⟩ ?_
    exact f_X11_worked_66_ok hs hK_14 _ _ _ _ _ _ _ h Q hw
  · have hw := hw.1 c4
    refine G_iconst (v := (1 : Int32)) dX11_worked_61 (by decide) ?_
    refine G_goto (tgt := 66) dX11_worked_62 rfl ?_
    refine G.less [some (.ref l0), some (.int l1), some (.int v1), some (.int l3), none, none] ⟨rfl, ⟨rfl, ⟨rfl, ⟨rfl, trivial⟩⟩⟩⟩ ?_
    exact f_X11_worked_66_ok hs hK_14 _ _ _ _ _ _ _ h Q hw
set_option maxHeartbeats 4000000 in
set_option maxRecDepth 100000 in
theorem f_X11_worked_89_ok {Γ : GX} (hs : SF Γ) {N : Nat} {K_14 : Nat → Int32 → Int32 → Int32 → PH → Option (Int32 × PH)} (hK_14 : ∀ (l0 : Nat) (l1 : Int32) (l2 : Int32) (l3 : Int32) (h : PH) (Q : Int32 → PH → Prop), wp (K_14 l0 l1 l2 l3 h) Q → G Γ yX11_worked cX11_worked 6 (some .int) (3, 0, 0) 14 [some (.ref l0), some (.int l1), some (.int l2), some (.int l3), none, none] [] h (0, 0) (q_i Q)) (l0 : Nat) (l1 : Int32) (l2 : Int32) (l3 : Int32) (l4 : Int32) (h : PH) (Q : Int32 → PH → Prop) (hw : wp (f_X11_worked_89 N K_14 l0 l1 l2 l3 l4 h) Q) : G Γ yX11_worked cX11_worked 6 (some .int) (3, 0, 0) 89 [some (.ref l0), some (.int l1), some (.int l2), some (.int l3), some (.int l4), none] [] h (0, 0) (q_i Q) := by
  unfold f_X11_worked_89 at hw
  refine G_aload_n dX11_worked_89 rfl ?_
  refine G_iload_n dX11_worked_90 rfl ?_
  obtain ⟨c3, hw⟩ := wp_ck hw
  refine G_callV (As := [.int l2]) (s_X11_sums hs l0 l2 h _ (wp_cl hw)) ca_X11_sums w_1826 w_86 (ci := 10) rfl (by decide) w_1824 c3 (Nat.le_of_ble_eq_true rfl) (Nat.le_of_ble_eq_true rfl) rfl (Nat.le_of_ble_eq_true rfl) (Nat.le_of_ble_eq_true rfl) (Nat.le_of_ble_eq_true rfl) dX11_worked_91 rfl (fun v h2 hq => ?_)
  obtain ⟨rfl, hw⟩ := hq
  refine G.cse (cs' := (0, 0)) rfl ?_
  show GZ _ _ _ _ _ _ _ 94 _ [] _ _
  refine G_aload_n dX11_worked_94 rfl ?_
  obtain ⟨c4, hw⟩ := wp_ck hw
  refine G_getR fl_X11_sumBy w_1425 dX11_worked_95 c4 ?_
  obtain ⟨a5, ea5, hw⟩ := wp_rq hw
  refine G.sure ea5 ?_
  refine G_iload_n dX11_worked_98 rfl ?_
  refine G_iload dX11_worked_99 rfl ?_
  obtain ⟨c6, hw⟩ := wp_ck hw
  obtain ⟨c7, hw⟩ := wp_ck hw
  refine G_iastore dX11_worked_101 c6 c7 ?_
  refine G.nmh fun h8 eh8 => ?_
  have hw := wp_bd hw h8 eh8
  refine G_goto (tgt := 329) dX11_worked_102 rfl ?_
  refine G.less [some (.ref l0), some (.int l1), some (.int l2), some (.int l3), none, none] ⟨rfl, ⟨rfl, ⟨rfl, ⟨rfl, trivial⟩⟩⟩⟩ ?_
  exact f_X11_worked_329_ok hs hK_14 _ _ _ _ h8 Q hw
set_option maxHeartbeats 4000000 in
set_option maxRecDepth 100000 in
theorem f_X11_worked_137_ok {Γ : GX} (hs : SF Γ) {N : Nat} {K_14 : Nat → Int32 → Int32 → Int32 → PH → Option (Int32 × PH)} (hK_14 : ∀ (l0 : Nat) (l1 : Int32) (l2 : Int32) (l3 : Int32) (h : PH) (Q : Int32 → PH → Prop), wp (K_14 l0 l1 l2 l3 h) Q → G Γ yX11_worked cX11_worked 6 (some .int) (3, 0, 0) 14 [some (.ref l0), some (.int l1), some (.int l2), some (.int l3), none, none] [] h (0, 0) (q_i Q)) (l0 : Nat) (l1 : Int32) (l2 : Int32) (l3 : Int32) (l4 : Int32) (h : PH) (Q : Int32 → PH → Prop) (hw : wp (f_X11_worked_137 N K_14 l0 l1 l2 l3 l4 h) Q) : G Γ yX11_worked cX11_worked 6 (some .int) (3, 0, 0) 137 [some (.ref l0), some (.int l1), some (.int l2), some (.int l3), some (.int l4), none] [] h (0, 0) (q_i Q) := by
  unfold f_X11_worked_137 at hw
  refine G_aload_n dX11_worked_137 rfl ?_
  refine G_iload_n dX11_worked_138 rfl ?_
  obtain ⟨c3, hw⟩ := wp_ck hw
  refine G_callV (As := [.int l2]) (s_X11_sums hs l0 l2 h _ (wp_cl hw)) ca_X11_sums w_1826 w_86 (ci := 10) rfl (by decide) w_1824 c3 (Nat.le_of_ble_eq_true rfl) (Nat.le_of_ble_eq_true rfl) rfl (Nat.le_of_ble_eq_true rfl) (Nat.le_of_ble_eq_true rfl) (Nat.le_of_ble_eq_true rfl) dX11_worked_139 rfl (fun v h2 hq => ?_)
  obtain ⟨rfl, hw⟩ := hq
  refine G.cse (cs' := (0, 0)) rfl ?_
  show GZ _ _ _ _ _ _ _ 142 _ [] _ _
  refine G_aload_n dX11_worked_142 rfl ?_
  obtain ⟨c4, hw⟩ := wp_ck hw
  refine G_getR fl_X11_ahead w_1422 dX11_worked_143 c4 ?_
  obtain ⟨a5, ea5, hw⟩ := wp_rq hw
  refine G.sure ea5 ?_
  refine G_iload_n dX11_worked_146 rfl ?_
  refine G_aload_n dX11_worked_147 rfl ?_
  refine G_getR fl_X11_sum w_1424 dX11_worked_148 c4 ?_
  obtain ⟨a6, ea6, hw⟩ := wp_rq hw
  refine G.sure ea6 ?_
  refine G_iload_n dX11_worked_151 rfl ?_
  obtain ⟨c7, hw⟩ := wp_ck hw
  obtain ⟨c8, hw⟩ := wp_ck hw
  refine G_iaload dX11_worked_152 c7 c8 ?_
  obtain ⟨c9, hw⟩ := wp_ck hw
  obtain ⟨c10, hw⟩ := wp_ck hw
  refine G_iastore dX11_worked_153 c9 c10 ?_
  refine G.nmh fun h11 eh11 => ?_
  have hw := wp_bd hw h11 eh11
  refine G_aload_n dX11_worked_154 rfl ?_
  obtain ⟨c12, hw⟩ := wp_ck hw
  refine G_getR fl_X11_against w_1423 dX11_worked_155 c12 ?_
  obtain ⟨a13, ea13, hw⟩ := wp_rq hw
  refine G.sure ea13 ?_
  refine G_iload_n dX11_worked_158 rfl ?_
  refine G_iload dX11_worked_159 rfl ?_
  obtain ⟨c14, hw⟩ := wp_ck hw
  obtain ⟨c15, hw⟩ := wp_ck hw
  refine G_iastore dX11_worked_161 c14 c15 ?_
  refine G.nmh fun h16 eh16 => ?_
  have hw := wp_bd hw h16 eh16
  refine G_aload_n dX11_worked_162 rfl ?_
  obtain ⟨c17, hw⟩ := wp_ck hw
  refine G_getR fl_X11_sum w_1424 dX11_worked_163 c17 ?_
  obtain ⟨a18, ea18, hw⟩ := wp_rq hw
  refine G.sure ea18 ?_
  refine G_iload_n dX11_worked_166 rfl ?_
  refine G_iconst (v := (0 : Int32)) dX11_worked_167 (by decide) ?_
  obtain ⟨c19, hw⟩ := wp_ck hw
  obtain ⟨c20, hw⟩ := wp_ck hw
  refine G_iastore dX11_worked_168 c19 c20 ?_
  refine G.nmh fun h21 eh21 => ?_
  have hw := wp_bd hw h21 eh21
  refine G_aload_n dX11_worked_169 rfl ?_
  obtain ⟨c22, hw⟩ := wp_ck hw
  refine G_getR fl_X11_sumBy w_1425 dX11_worked_170 c22 ?_
  obtain ⟨a23, ea23, hw⟩ := wp_rq hw
  refine G.sure ea23 ?_
  refine G_iload_n dX11_worked_173 rfl ?_
  refine G_bipush (v := (20 : Int32)) dX11_worked_174 (by decide) ?_
  obtain ⟨c24, hw⟩ := wp_ck hw
  obtain ⟨c25, hw⟩ := wp_ck hw
  refine G_iastore dX11_worked_176 c24 c25 ?_
  refine G.nmh fun h26 eh26 => ?_
  have hw := wp_bd hw h26 eh26
  refine G_goto (tgt := 329) dX11_worked_177 rfl ?_
  refine G.less [some (.ref l0), some (.int l1), some (.int l2), some (.int l3), none, none] ⟨rfl, ⟨rfl, ⟨rfl, ⟨rfl, trivial⟩⟩⟩⟩ ?_
  exact f_X11_worked_329_ok hs hK_14 _ _ _ _ h26 Q hw
set_option maxHeartbeats 4000000 in
set_option maxRecDepth 100000 in
theorem f_X11_worked_194_ok {Γ : GX} (hs : SF Γ) {N : Nat} {K_14 : Nat → Int32 → Int32 → Int32 → PH → Option (Int32 × PH)} (hK_14 : ∀ (l0 : Nat) (l1 : Int32) (l2 : Int32) (l3 : Int32) (h : PH) (Q : Int32 → PH → Prop), wp (K_14 l0 l1 l2 l3 h) Q → G Γ yX11_worked cX11_worked 6 (some .int) (3, 0, 0) 14 [some (.ref l0), some (.int l1), some (.int l2), some (.int l3), none, none] [] h (0, 0) (q_i Q)) (l0 : Nat) (l1 : Int32) (l2 : Int32) (l3 : Int32) (l4 : Int32) (h : PH) (Q : Int32 → PH → Prop) (hw : wp (f_X11_worked_194 N K_14 l0 l1 l2 l3 l4 h) Q) : G Γ yX11_worked cX11_worked 6 (some .int) (3, 0, 0) 194 [some (.ref l0), some (.int l1), some (.int l2), some (.int l3), some (.int l4), none] [] h (0, 0) (q_i Q) := by
  unfold f_X11_worked_194 at hw
  refine G_aload_n dX11_worked_194 rfl ?_
  refine G_iload_n dX11_worked_195 rfl ?_
  obtain ⟨c3, hw⟩ := wp_ck hw
  refine G_callV (As := [.int l2]) (s_X11_tests hs l0 l2 h _ (wp_cl hw)) ca_X11_tests w_1830 w_87 (ci := 10) rfl (by decide) w_1828 c3 (Nat.le_of_ble_eq_true rfl) (Nat.le_of_ble_eq_true rfl) rfl (Nat.le_of_ble_eq_true rfl) (Nat.le_of_ble_eq_true rfl) (Nat.le_of_ble_eq_true rfl) dX11_worked_196 rfl (fun v h2 hq => ?_)
  obtain ⟨rfl, hw⟩ := hq
  refine G.cse (cs' := (0, 0)) rfl ?_
  show GZ _ _ _ _ _ _ _ 199 _ [] _ _
  refine G_aload_n dX11_worked_199 rfl ?_
  obtain ⟨c4, hw⟩ := wp_ck hw
  refine G_getR fl_X11_keptBy w_1421 dX11_worked_200 c4 ?_
  obtain ⟨a5, ea5, hw⟩ := wp_rq hw
  refine G.sure ea5 ?_
  refine G_iload_n dX11_worked_203 rfl ?_
  refine G_iload dX11_worked_204 rfl ?_
  obtain ⟨c6, hw⟩ := wp_ck hw
  obtain ⟨c7, hw⟩ := wp_ck hw
  refine G_iastore dX11_worked_206 c6 c7 ?_
  refine G.nmh fun h8 eh8 => ?_
  have hw := wp_bd hw h8 eh8
  refine G_goto (tgt := 329) dX11_worked_207 rfl ?_
  refine G.less [some (.ref l0), some (.int l1), some (.int l2), some (.int l3), none, none] ⟨rfl, ⟨rfl, ⟨rfl, ⟨rfl, trivial⟩⟩⟩⟩ ?_
  exact f_X11_worked_329_ok hs hK_14 _ _ _ _ h8 Q hw
set_option maxHeartbeats 4000000 in
set_option maxRecDepth 100000 in
theorem f_X11_worked_292_ok {Γ : GX} (hs : SF Γ) {N : Nat} {K_14 : Nat → Int32 → Int32 → Int32 → PH → Option (Int32 × PH)} {K_268 : Nat → Int32 → Int32 → Int32 → Int32 → PH → Option (Int32 × PH)} (hK_14 : ∀ (l0 : Nat) (l1 : Int32) (l2 : Int32) (l3 : Int32) (h : PH) (Q : Int32 → PH → Prop), wp (K_14 l0 l1 l2 l3 h) Q → G Γ yX11_worked cX11_worked 6 (some .int) (3, 0, 0) 14 [some (.ref l0), some (.int l1), some (.int l2), some (.int l3), none, none] [] h (0, 0) (q_i Q)) (hK_268 : ∀ (l0 : Nat) (l1 : Int32) (l2 : Int32) (l3 : Int32) (l5 : Int32) (h : PH) (Q : Int32 → PH → Prop), wp (K_268 l0 l1 l2 l3 l5 h) Q → G Γ yX11_worked cX11_worked 6 (some .int) (3, 0, 0) 268 [some (.ref l0), some (.int l1), some (.int l2), some (.int l3), none, some (.int l5)] [] h (0, 0) (q_i Q)) (s0 : Int32) (l0 : Nat) (l1 : Int32) (l2 : Int32) (l3 : Int32) (h : PH) (Q : Int32 → PH → Prop) (hw : wp (f_X11_worked_292 N K_14 K_268 s0 l0 l1 l2 l3 h) Q) : G Γ yX11_worked cX11_worked 6 (some .int) (3, 0, 0) 292 [some (.ref l0), some (.int l1), some (.int l2), some (.int l3), none, none] [.int s0] h (0, 0) (q_i Q) := by
  unfold f_X11_worked_292 at hw
  refine G_istore (lv' := [some (.ref l0), some (.int l1), some (.int l2), some (.int l3), none, some (.int s0)]) dX11_worked_292 (Nat.le_of_ble_eq_true rfl) rfl ?_
  obtain ⟨v1, ev1⟩ : ∃ z : Int32, z = l2 + (-1 : Int32) := ⟨_, rfl⟩
  have hw := wp_bd hw v1 ev1
  refine G_iinc (v := v1) (lv' := [some (.ref l0), some (.int l1), some (.int v1), some (.int l3), none, some (.int s0)]) dX11_worked_294 rfl (by rw [ev1]; rfl) (Nat.le_of_ble_eq_true rfl) rfl ?_
  refine G_goto (tgt := 268) dX11_worked_297 rfl ?_
  refine G.less [some (.ref l0), some (.int l1), some (.int v1), some (.int l3), none, some (.int s0)] ⟨rfl, ⟨rfl, ⟨rfl, ⟨rfl, ⟨rfl, trivial⟩⟩⟩⟩⟩ ?_
  exact hK_268 _ _ _ _ _ h Q hw
set_option maxHeartbeats 4000000 in
set_option maxRecDepth 100000 in
theorem f_X11_worked_328_ok {Γ : GX} (hs : SF Γ) {N : Nat} {K_14 : Nat → Int32 → Int32 → Int32 → PH → Option (Int32 × PH)} (hK_14 : ∀ (l0 : Nat) (l1 : Int32) (l2 : Int32) (l3 : Int32) (h : PH) (Q : Int32 → PH → Prop), wp (K_14 l0 l1 l2 l3 h) Q → G Γ yX11_worked cX11_worked 6 (some .int) (3, 0, 0) 14 [some (.ref l0), some (.int l1), some (.int l2), some (.int l3), none, none] [] h (0, 0) (q_i Q)) (s0 : Int32) (s1 : Int32) (s2 : Nat) (l0 : Nat) (l1 : Int32) (l2 : Int32) (l3 : Int32) (h : PH) (Q : Int32 → PH → Prop) (hw : wp (f_X11_worked_328 N K_14 s0 s1 s2 l0 l1 l2 l3 h) Q) : G Γ yX11_worked cX11_worked 6 (some .int) (3, 0, 0) 328 [some (.ref l0), some (.int l1), some (.int l2), some (.int l3), none, none] [.int s0, .int s1, .ref s2] h (0, 0) (q_i Q) := by
  unfold f_X11_worked_328 at hw
  obtain ⟨c1, hw⟩ := wp_ck hw
  obtain ⟨c2, hw⟩ := wp_ck hw
  refine G_iastore dX11_worked_328 c1 c2 ?_
  refine G.nmh fun h3 eh3 => ?_
  have hw := wp_bd hw h3 eh3
  refine G.less [some (.ref l0), some (.int l1), some (.int l2), some (.int l3), none, none] ⟨rfl, ⟨rfl, ⟨rfl, ⟨rfl, trivial⟩⟩⟩⟩ ?_
  exact f_X11_worked_329_ok hs hK_14 _ _ _ _ h3 Q hw
set_option maxHeartbeats 4000000 in
set_option maxRecDepth 100000 in
theorem f_X11_worked_300_ok {Γ : GX} (hs : SF Γ) {N : Nat} {K_14 : Nat → Int32 → Int32 → Int32 → PH → Option (Int32 × PH)} (hK_14 : ∀ (l0 : Nat) (l1 : Int32) (l2 : Int32) (l3 : Int32) (h : PH) (Q : Int32 → PH → Prop), wp (K_14 l0 l1 l2 l3 h) Q → G Γ yX11_worked cX11_worked 6 (some .int) (3, 0, 0) 14 [some (.ref l0), some (.int l1), some (.int l2), some (.int l3), none, none] [] h (0, 0) (q_i Q)) (l0 : Nat) (l1 : Int32) (l2 : Int32) (l3 : Int32) (l5 : Int32) (h : PH) (Q : Int32 → PH → Prop) (hw : wp (f_X11_worked_300 N K_14 l0 l1 l2 l3 l5 h) Q) : G Γ yX11_worked cX11_worked 6 (some .int) (3, 0, 0) 300 [some (.ref l0), some (.int l1), some (.int l2), some (.int l3), none, some (.int l5)] [] h (0, 0) (q_i Q) := by
  unfold f_X11_worked_300 at hw
  refine G_aload_n dX11_worked_300 rfl ?_
  obtain ⟨c1, hw⟩ := wp_ck hw
  refine G_getR fl_X11_term w_1426 dX11_worked_301 c1 ?_
  obtain ⟨a2, ea2, hw⟩ := wp_rq hw
  refine G.sure ea2 ?_
  refine G_iload_n dX11_worked_304 rfl ?_
  refine G_aload_n dX11_worked_305 rfl ?_
  refine G_getR fl_X11_termBy w_1427 dX11_worked_306 c1 ?_
  obtain ⟨a3, ea3, hw⟩ := wp_rq hw
  refine G.sure ea3 ?_
  refine G_iload_n dX11_worked_309 rfl ?_
  obtain ⟨c4, hw⟩ := wp_ck hw
  obtain ⟨c5, hw⟩ := wp_ck hw
  refine G_iaload dX11_worked_310 c4 c5 ?_
  have hw := wp_if hw
  refine G_if_ne (tgt := 319) dX11_worked_311 rfl (fun c6 => ?_) (fun c6 => ?_)
  · have hw := hw.2 c6
    refine G_aload_n dX11_worked_319 rfl ?_
    refine G_getR fl_X11_term w_1426 dX11_worked_320 c1 ?_
    obtain ⟨a7, ea7, hw⟩ := wp_rq hw
    refine G.sure ea7 ?_
    refine G_iload_n dX11_worked_323 rfl ?_
    obtain ⟨c8, hw⟩ := wp_ck hw
    obtain ⟨c9, hw⟩ := wp_ck hw
    refine G_iaload dX11_worked_324 c8 c9 ?_
    refine G_iload dX11_worked_325 rfl ?_
    refine G_imul dX11_worked_327 ?_
    refine G.less [some (.ref l0), some (.int l1), some (.int l2), some (.int l3), none, none] ⟨rfl, ⟨rfl, ⟨rfl, ⟨rfl, trivial⟩⟩⟩⟩ ?_
    exact f_X11_worked_328_ok hs hK_14 _ _ _ _ _ _ _ h Q hw
  · have hw := hw.1 c6
    refine G_iload dX11_worked_314 rfl ?_
    refine G_goto (tgt := 328) dX11_worked_316 rfl ?_
    refine G.less [some (.ref l0), some (.int l1), some (.int l2), some (.int l3), none, none] ⟨rfl, ⟨rfl, ⟨rfl, ⟨rfl, trivial⟩⟩⟩⟩ ?_
    exact f_X11_worked_328_ok hs hK_14 _ _ _ _ _ _ _ h Q hw
set_option maxHeartbeats 4000000 in
set_option maxRecDepth 100000 in
theorem f_X11_worked_268_bok {Γ : GX} (hs : SF Γ) {N : Nat} {K_14 : Nat → Int32 → Int32 → Int32 → PH → Option (Int32 × PH)} {K_268 : Nat → Int32 → Int32 → Int32 → Int32 → PH → Option (Int32 × PH)} (hK_14 : ∀ (l0 : Nat) (l1 : Int32) (l2 : Int32) (l3 : Int32) (h : PH) (Q : Int32 → PH → Prop), wp (K_14 l0 l1 l2 l3 h) Q → G Γ yX11_worked cX11_worked 6 (some .int) (3, 0, 0) 14 [some (.ref l0), some (.int l1), some (.int l2), some (.int l3), none, none] [] h (0, 0) (q_i Q)) (hK_268 : ∀ (l0 : Nat) (l1 : Int32) (l2 : Int32) (l3 : Int32) (l5 : Int32) (h : PH) (Q : Int32 → PH → Prop), wp (K_268 l0 l1 l2 l3 l5 h) Q → G Γ yX11_worked cX11_worked 6 (some .int) (3, 0, 0) 268 [some (.ref l0), some (.int l1), some (.int l2), some (.int l3), none, some (.int l5)] [] h (0, 0) (q_i Q)) (l0 : Nat) (l1 : Int32) (l2 : Int32) (l3 : Int32) (l5 : Int32) (h : PH) (Q : Int32 → PH → Prop) (hw : wp (f_X11_worked_268_b N K_14 K_268 l0 l1 l2 l3 l5 h) Q) : G Γ yX11_worked cX11_worked 6 (some .int) (3, 0, 0) 268 [some (.ref l0), some (.int l1), some (.int l2), some (.int l3), none, some (.int l5)] [] h (0, 0) (q_i Q) := by
  unfold f_X11_worked_268_b at hw
  refine G_iload_n dX11_worked_268 rfl ?_
  have hw := wp_if hw
  refine G_if_le (tgt := 300) dX11_worked_269 rfl (fun c1 => ?_) (fun c1 => ?_)
  · have hw := hw.1 c1
    refine G.less [some (.ref l0), some (.int l1), some (.int l2), some (.int l3), none, some (.int l5)] ⟨rfl, ⟨rfl, ⟨rfl, ⟨rfl, ⟨rfl, trivial⟩⟩⟩⟩⟩ ?_
    exact f_X11_worked_300_ok hs hK_14 _ _ _ _ _ h Q hw
  · have hw := hw.2 c1
    refine G_aload_n dX11_worked_272 rfl ?_
    obtain ⟨c2, hw⟩ := wp_ck hw
    refine G_getR fl_X11_byNot w_1428 dX11_worked_273 c2 ?_
    obtain ⟨a3, ea3, hw⟩ := wp_rq hw
    refine G.sure ea3 ?_
    refine G_iload_n dX11_worked_276 rfl ?_
    obtain ⟨c4, hw⟩ := wp_ck hw
    obtain ⟨c5, hw⟩ := wp_ck hw
    refine G_iaload dX11_worked_277 c4 c5 ?_
    refine G_iconst (v := (1 : Int32)) dX11_worked_278 (by decide) ?_
    have hw := wp_if hw
    refine G_icmp_ne (tgt := 300) dX11_worked_279 rfl (fun c6 => ?_) (fun c6 => ?_)
    · have hw := hw.2 c6
      refine G.less [some (.ref l0), some (.int l1), some (.int l2), some (.int l3), none, some (.int l5)] ⟨rfl, ⟨rfl, ⟨rfl, ⟨rfl, ⟨rfl, trivial⟩⟩⟩⟩⟩ ?_
      exact f_X11_worked_300_ok hs hK_14 _ _ _ _ _ h Q hw
    · have hw := hw.1 c6
      refine G_iload dX11_worked_282 rfl ?_
      have hw := wp_if hw
      refine G_if_ne (tgt := 291) dX11_worked_284 rfl (fun c7 => ?_) (fun c7 => ?_)
      · have hw := hw.2 c7
        refine G_iconst (v := (0 : Int32)) dX11_worked_291 (by decide) ?_
        refine G.less [some (.ref l0), some (.int l1), some (.int l2), some (.int l3), none, none] ⟨rfl, ⟨rfl, ⟨rfl, ⟨rfl, trivial⟩⟩⟩⟩ ?_
        exact f_X11_worked_292_ok hs hK_14 hK_268 _ _ _ _ _ h Q hw
      · have hw := hw.1 c7
        refine G_iconst (v := (1 : Int32)) dX11_worked_287 (by decide) ?_
        refine G_goto (tgt := 292) dX11_worked_288 rfl ?_
        refine G.less [some (.ref l0), some (.int l1), some (.int l2), some (.int l3), none, none] ⟨rfl, ⟨rfl, ⟨rfl, ⟨rfl, trivial⟩⟩⟩⟩ ?_
        exact f_X11_worked_292_ok hs hK_14 hK_268 _ _ _ _ _ h Q hw
theorem f_X11_worked_268_ok {Γ : GX} (hs : SF Γ) {N : Nat} {K_14 : Nat → Int32 → Int32 → Int32 → PH → Option (Int32 × PH)} (hK_14 : ∀ (l0 : Nat) (l1 : Int32) (l2 : Int32) (l3 : Int32) (h : PH) (Q : Int32 → PH → Prop), wp (K_14 l0 l1 l2 l3 h) Q → G Γ yX11_worked cX11_worked 6 (some .int) (3, 0, 0) 14 [some (.ref l0), some (.int l1), some (.int l2), some (.int l3), none, none] [] h (0, 0) (q_i Q)) : ∀ (n : Nat) (l0 : Nat) (l1 : Int32) (l2 : Int32) (l3 : Int32) (l5 : Int32) (h : PH) (Q : Int32 → PH → Prop), wp (f_X11_worked_268 N K_14 n l0 l1 l2 l3 l5 h) Q → G Γ yX11_worked cX11_worked 6 (some .int) (3, 0, 0) 268 [some (.ref l0), some (.int l1), some (.int l2), some (.int l3), none, some (.int l5)] [] h (0, 0) (q_i Q)
  | 0, _, _, _, _, _, _, Q, hw => (wp_no hw).elim
  | n + 1, l0, l1, l2, l3, l5, h, Q, hw => f_X11_worked_268_bok (N := N) hs hK_14 (f_X11_worked_268_ok (N := N) hs hK_14 n) l0 l1 l2 l3 l5 h Q hw
set_option maxHeartbeats 4000000 in
set_option maxRecDepth 100000 in
theorem f_X11_worked_243_ok {Γ : GX} (hs : SF Γ) {N : Nat} {K_14 : Nat → Int32 → Int32 → Int32 → PH → Option (Int32 × PH)} (hK_14 : ∀ (l0 : Nat) (l1 : Int32) (l2 : Int32) (l3 : Int32) (h : PH) (Q : Int32 → PH → Prop), wp (K_14 l0 l1 l2 l3 h) Q → G Γ yX11_worked cX11_worked 6 (some .int) (3, 0, 0) 14 [some (.ref l0), some (.int l1), some (.int l2), some (.int l3), none, none] [] h (0, 0) (q_i Q)) (s0 : Int32) (l0 : Nat) (l1 : Int32) (l2 : Int32) (l3 : Int32) (l4 : Int32) (h : PH) (Q : Int32 → PH → Prop) (hw : wp (f_X11_worked_243 N K_14 s0 l0 l1 l2 l3 l4 h) Q) : G Γ yX11_worked cX11_worked 6 (some .int) (3, 0, 0) 243 [some (.ref l0), some (.int l1), some (.int l2), some (.int l3), some (.int l4), none] [.int s0] h (0, 0) (q_i Q) := by
  unfold f_X11_worked_243 at hw
  refine G_istore (lv' := [some (.ref l0), some (.int l1), some (.int l2), some (.int l3), some (.int l4), some (.int s0)]) dX11_worked_243 (Nat.le_of_ble_eq_true rfl) rfl ?_
  refine G_iload dX11_worked_245 rfl ?_
  refine G_bipush (v := (29 : Int32)) dX11_worked_247 (by decide) ?_
  have hw := wp_if hw
  refine G_icmp_ne (tgt := 268) dX11_worked_249 rfl (fun c1 => ?_) (fun c1 => ?_)
  · have hw := hw.2 c1
    refine G.less [some (.ref l0), some (.int l1), some (.int l2), some (.int l3), none, some (.int s0)] ⟨rfl, ⟨rfl, ⟨rfl, ⟨rfl, ⟨rfl, trivial⟩⟩⟩⟩⟩ ?_
    exact f_X11_worked_268_ok hs hK_14 N _ _ _ _ _ h Q hw
  · have hw := hw.1 c1
    refine G_aload_n dX11_worked_252 rfl ?_
    refine G_iload_n dX11_worked_253 rfl ?_
    obtain ⟨c4, hw⟩ := wp_ck hw
    refine G_callV (As := [.int l2]) (s_X11_tests hs l0 l2 h _ (wp_cl hw)) ca_X11_tests w_1830 w_87 (ci := 10) rfl (by decide) w_1828 c4 (Nat.le_of_ble_eq_true rfl) (Nat.le_of_ble_eq_true rfl) rfl (Nat.le_of_ble_eq_true rfl) (Nat.le_of_ble_eq_true rfl) (Nat.le_of_ble_eq_true rfl) dX11_worked_254 rfl (fun v h3 hq => ?_)
    obtain ⟨rfl, hw⟩ := hq
    refine G.cse (cs' := (0, 0)) rfl ?_
    show GZ _ _ _ _ _ _ _ 257 _ [] _ _
    refine G_aload_n dX11_worked_257 rfl ?_
    obtain ⟨c5, hw⟩ := wp_ck hw
    refine G_getR fl_X11_kept w_1420 dX11_worked_258 c5 ?_
    obtain ⟨a6, ea6, hw⟩ := wp_rq hw
    refine G.sure ea6 ?_
    refine G_iload_n dX11_worked_261 rfl ?_
    obtain ⟨c7, hw⟩ := wp_ck hw
    obtain ⟨c8, hw⟩ := wp_ck hw
    refine G_iaload dX11_worked_262 c7 c8 ?_
    refine G.topi fun v9 ev9 => ?_
    have hw := wp_bd hw v9 ev9
    refine G_istore (lv' := [some (.ref l0), some (.int l1), some (.int l2), some (.int l3), some (.int l4), some (.int v9)]) dX11_worked_263 (Nat.le_of_ble_eq_true rfl) rfl ?_
    obtain ⟨v10, ev10⟩ : ∃ z : Int32, z = l2 + (-1 : Int32) := ⟨_, rfl⟩
    have hw := wp_bd hw v10 ev10
    refine G_iinc (v := v10) (lv' := [some (.ref l0), some (.int l1), some (.int v10), some (.int l3), some (.int l4), some (.int v9)]) dX11_worked_265 rfl (by rw [ev10]; rfl) (Nat.le_of_ble_eq_true rfl) rfl ?_
    refine G.less [some (.ref l0), some (.int l1), some (.int v10), some (.int l3), none, some (.int v9)] ⟨rfl, ⟨rfl, ⟨rfl, ⟨rfl, ⟨rfl, trivial⟩⟩⟩⟩⟩ ?_
    exact f_X11_worked_268_ok hs hK_14 N _ _ _ _ _ h3 Q hw
set_option maxHeartbeats 4000000 in
set_option maxRecDepth 100000 in
theorem f_X11_worked_14_bok {Γ : GX} (hs : SF Γ) {N : Nat} {K_14 : Nat → Int32 → Int32 → Int32 → PH → Option (Int32 × PH)} (hK_14 : ∀ (l0 : Nat) (l1 : Int32) (l2 : Int32) (l3 : Int32) (h : PH) (Q : Int32 → PH → Prop), wp (K_14 l0 l1 l2 l3 h) Q → G Γ yX11_worked cX11_worked 6 (some .int) (3, 0, 0) 14 [some (.ref l0), some (.int l1), some (.int l2), some (.int l3), none, none] [] h (0, 0) (q_i Q)) (l0 : Nat) (l1 : Int32) (l2 : Int32) (l3 : Int32) (h : PH) (Q : Int32 → PH → Prop) (hw : wp (f_X11_worked_14_b N K_14 l0 l1 l2 l3 h) Q) : G Γ yX11_worked cX11_worked 6 (some .int) (3, 0, 0) 14 [some (.ref l0), some (.int l1), some (.int l2), some (.int l3), none, none] [] h (0, 0) (q_i Q) := by
  unfold f_X11_worked_14_b at hw
  refine G_iload_n dX11_worked_14 rfl ?_
  refine G_aload_n dX11_worked_15 rfl ?_
  obtain ⟨c1, hw⟩ := wp_ck hw
  refine G_getR fl_X11_lineTo w_1414 dX11_worked_16 c1 ?_
  obtain ⟨a2, ea2, hw⟩ := wp_rq hw
  refine G.sure ea2 ?_
  refine G_iload_n dX11_worked_19 rfl ?_
  obtain ⟨c3, hw⟩ := wp_ck hw
  obtain ⟨c4, hw⟩ := wp_ck hw
  refine G_iaload dX11_worked_20 c3 c4 ?_
  have hw := wp_if hw
  refine G_icmp_ge (tgt := 335) dX11_worked_21 rfl (fun c5 => ?_) (fun c5 => ?_)
  · have hw := hw.1 c5
    refine G_aload_n dX11_worked_335 rfl ?_
    refine G_iconst (v := (0 : Int32)) dX11_worked_336 (by decide) ?_
    refine G_callV (As := [.int (0 : Int32)]) (s_X11_tests hs l0 (0 : Int32) h _ (wp_cl hw)) ca_X11_tests w_1830 w_87 (ci := 10) rfl (by decide) w_1828 c1 (Nat.le_of_ble_eq_true rfl) (Nat.le_of_ble_eq_true rfl) rfl (Nat.le_of_ble_eq_true rfl) (Nat.le_of_ble_eq_true rfl) (Nat.le_of_ble_eq_true rfl) dX11_worked_337 rfl (fun v h7 hq => ?_)
    obtain ⟨rfl, hw⟩ := hq
    refine G.cse (cs' := (0, 0)) rfl ?_
    show GZ _ _ _ _ _ _ _ 340 _ [] _ _
    refine G_aload_n dX11_worked_340 rfl ?_
    obtain ⟨c8, hw⟩ := wp_ck hw
    refine G_getR fl_X11_kept w_1420 dX11_worked_341 c8 ?_
    obtain ⟨a9, ea9, hw⟩ := wp_rq hw
    refine G.sure ea9 ?_
    refine G_iconst (v := (0 : Int32)) dX11_worked_344 (by decide) ?_
    obtain ⟨c10, hw⟩ := wp_ck hw
    obtain ⟨c11, hw⟩ := wp_ck hw
    refine G_ialoadK (k := 0) dX11_worked_345 c10 (by decide) rfl c11 ?_
    exact G_ireturn rfl dX11_worked_346 ⟨_, rfl, wp_ret hw⟩
  · have hw := hw.2 c5
    refine G_aload_n dX11_worked_24 rfl ?_
    refine G_getR fl_X11_codes w_1415 dX11_worked_25 c1 ?_
    obtain ⟨a12, ea12, hw⟩ := wp_rq hw
    refine G.sure ea12 ?_
    refine G_iload_n dX11_worked_28 rfl ?_
    obtain ⟨c13, hw⟩ := wp_ck hw
    obtain ⟨c14, hw⟩ := wp_ck hw
    refine G_iaload dX11_worked_29 c13 c14 ?_
    refine G.topi fun v15 ev15 => ?_
    have hw := wp_bd hw v15 ev15
    refine G_istore (lv' := [some (.ref l0), some (.int l1), some (.int l2), some (.int l3), some (.int v15), none]) dX11_worked_30 (Nat.le_of_ble_eq_true rfl) rfl ?_
    refine G_iload dX11_worked_32 rfl ?_
    refine G_bipush (v := (28 : Int32)) dX11_worked_34 (by decide) ?_
    have hw := wp_if hw
    refine G_icmp_eq (tgt := 46) dX11_worked_36 rfl (fun c16 => ?_) (fun c16 => ?_)
    · have hw := hw.1 c16
      refine G.less [some (.ref l0), some (.int l1), some (.int l2), some (.int l3), some (.int v15), none] ⟨rfl, ⟨rfl, ⟨rfl, ⟨rfl, ⟨rfl, trivial⟩⟩⟩⟩⟩ ?_
      exact f_X11_worked_46_ok hs hK_14 _ _ _ _ _ h Q hw
    · have hw := hw.2 c16
      refine G_iload dX11_worked_39 rfl ?_
      refine G_bipush (v := (30 : Int32)) dX11_worked_41 (by decide) ?_
      have hw := wp_if hw
      refine G_icmp_ne (tgt := 75) dX11_worked_43 rfl (fun c17 => ?_) (fun c17 => ?_)
      · have hw := hw.2 c17
        refine G_iload dX11_worked_75 rfl ?_
        refine G_bipush (v := (20 : Int32)) dX11_worked_77 (by decide) ?_
        have hw := wp_if hw
        refine G_icmp_eq (tgt := 89) dX11_worked_79 rfl (fun c18 => ?_) (fun c18 => ?_)
        · have hw := hw.1 c18
          refine G.less [some (.ref l0), some (.int l1), some (.int l2), some (.int l3), some (.int v15), none] ⟨rfl, ⟨rfl, ⟨rfl, ⟨rfl, ⟨rfl, trivial⟩⟩⟩⟩⟩ ?_
          exact f_X11_worked_89_ok hs hK_14 _ _ _ _ _ h Q hw
        · have hw := hw.2 c18
          refine G_iload dX11_worked_82 rfl ?_
          refine G_bipush (v := (21 : Int32)) dX11_worked_84 (by decide) ?_
          have hw := wp_if hw
          refine G_icmp_ne (tgt := 105) dX11_worked_86 rfl (fun c19 => ?_) (fun c19 => ?_)
          · have hw := hw.2 c19
            refine G_iload dX11_worked_105 rfl ?_
            refine G_bipush (v := (22 : Int32)) dX11_worked_107 (by decide) ?_
            have hw := wp_if hw
            refine G_icmp_ne (tgt := 123) dX11_worked_109 rfl (fun c20 => ?_) (fun c20 => ?_)
            · have hw := hw.2 c20
              refine G_iload dX11_worked_123 rfl ?_
              refine G_bipush (v := (24 : Int32)) dX11_worked_125 (by decide) ?_
              have hw := wp_if hw
              refine G_icmp_eq (tgt := 137) dX11_worked_127 rfl (fun c21 => ?_) (fun c21 => ?_)
              · have hw := hw.1 c21
                refine G.less [some (.ref l0), some (.int l1), some (.int l2), some (.int l3), some (.int v15), none] ⟨rfl, ⟨rfl, ⟨rfl, ⟨rfl, ⟨rfl, trivial⟩⟩⟩⟩⟩ ?_
                exact f_X11_worked_137_ok hs hK_14 _ _ _ _ _ h Q hw
              · have hw := hw.2 c21
                refine G_iload dX11_worked_130 rfl ?_
                refine G_bipush (v := (25 : Int32)) dX11_worked_132 (by decide) ?_
                have hw := wp_if hw
                refine G_icmp_ne (tgt := 180) dX11_worked_134 rfl (fun c22 => ?_) (fun c22 => ?_)
                · have hw := hw.2 c22
                  refine G_iload dX11_worked_180 rfl ?_
                  refine G_bipush (v := (26 : Int32)) dX11_worked_182 (by decide) ?_
                  have hw := wp_if hw
                  refine G_icmp_eq (tgt := 194) dX11_worked_184 rfl (fun c23 => ?_) (fun c23 => ?_)
                  · have hw := hw.1 c23
                    refine G.less [some (.ref l0), some (.int l1), some (.int l2), some (.int l3), some (.int v15), none] ⟨rfl, ⟨rfl, ⟨rfl, ⟨rfl, ⟨rfl, trivial⟩⟩⟩⟩⟩ ?_
                    exact f_X11_worked_194_ok hs hK_14 _ _ _ _ _ h Q hw
                  · have hw := hw.2 c23
                    refine G_iload dX11_worked_187 rfl ?_
                    refine G_bipush (v := (27 : Int32)) dX11_worked_189 (by decide) ?_
                    have hw := wp_if hw
                    refine G_icmp_ne (tgt := 210) dX11_worked_191 rfl (fun c24 => ?_) (fun c24 => ?_)
                    · have hw := hw.2 c24
                      refine G_iload dX11_worked_210 rfl ?_
                      refine G_bipush (v := (100 : Int32)) dX11_worked_212 (by decide) ?_
                      have hw := wp_if hw
                      refine G_icmp_lt (tgt := 225) dX11_worked_214 rfl (fun c25 => ?_) (fun c25 => ?_)
                      · have hw := hw.1 c25
                        refine G_iload dX11_worked_225 rfl ?_
                        refine G_bipush (v := (20 : Int32)) dX11_worked_227 (by decide) ?_
                        have hw := wp_if hw
                        refine G_icmp_ge (tgt := 242) dX11_worked_229 rfl (fun c26 => ?_) (fun c26 => ?_)
                        · have hw := hw.1 c26
                          refine G_iconst (v := (0 : Int32)) dX11_worked_242 (by decide) ?_
                          refine G.less [some (.ref l0), some (.int l1), some (.int l2), some (.int l3), some (.int v15), none] ⟨rfl, ⟨rfl, ⟨rfl, ⟨rfl, ⟨rfl, trivial⟩⟩⟩⟩⟩ ?_
                          exact f_X11_worked_243_ok hs hK_14 _ _ _ _ _ _ h Q hw
                        · have hw := hw.2 c26
                          refine G_aload_n dX11_worked_232 rfl ?_
                          refine G_getR fl_X11_valueOf w_1429 dX11_worked_233 c1 ?_
                          obtain ⟨a27, ea27, hw⟩ := wp_rq hw
                          refine G.sure ea27 ?_
                          refine G_iload dX11_worked_236 rfl ?_
                          obtain ⟨c28, hw⟩ := wp_ck hw
                          obtain ⟨c29, hw⟩ := wp_ck hw
                          refine G_iaload dX11_worked_238 c28 c29 ?_
                          refine G_goto (tgt := 243) dX11_worked_239 rfl ?_
                          refine G.less [some (.ref l0), some (.int l1), some (.int l2), some (.int l3), some (.int v15), none] ⟨rfl, ⟨rfl, ⟨rfl, ⟨rfl, ⟨rfl, trivial⟩⟩⟩⟩⟩ ?_
                          exact f_X11_worked_243_ok hs hK_14 _ _ _ _ _ _ h Q hw
                      · have hw := hw.2 c25
                        refine G_iload dX11_worked_217 rfl ?_
                        refine G_bipush (v := (100 : Int32)) dX11_worked_219 (by decide) ?_
                        refine G_isub dX11_worked_221 ?_
                        refine G_goto (tgt := 243) dX11_worked_222 rfl ?_
                        refine G.less [some (.ref l0), some (.int l1), some (.int l2), some (.int l3), some (.int v15), none] ⟨rfl, ⟨rfl, ⟨rfl, ⟨rfl, ⟨rfl, trivial⟩⟩⟩⟩⟩ ?_
                        exact f_X11_worked_243_ok hs hK_14 _ _ _ _ _ _ h Q hw
                    · have hw := hw.1 c24
                      refine G.less [some (.ref l0), some (.int l1), some (.int l2), some (.int l3), some (.int v15), none] ⟨rfl, ⟨rfl, ⟨rfl, ⟨rfl, ⟨rfl, trivial⟩⟩⟩⟩⟩ ?_
                      exact f_X11_worked_194_ok hs hK_14 _ _ _ _ _ h Q hw
                · have hw := hw.1 c22
                  refine G.less [some (.ref l0), some (.int l1), some (.int l2), some (.int l3), some (.int v15), none] ⟨rfl, ⟨rfl, ⟨rfl, ⟨rfl, ⟨rfl, trivial⟩⟩⟩⟩⟩ ?_
                  exact f_X11_worked_137_ok hs hK_14 _ _ _ _ _ h Q hw
            · have hw := hw.1 c20
              refine G_aload_n dX11_worked_112 rfl ?_
              refine G_getR fl_X11_termBy w_1427 dX11_worked_113 c1 ?_
              obtain ⟨a30, ea30, hw⟩ := wp_rq hw
              refine G.sure ea30 ?_
              refine G_iload_n dX11_worked_116 rfl ?_
              refine G_iload dX11_worked_117 rfl ?_
              obtain ⟨c31, hw⟩ := wp_ck hw
              obtain ⟨c32, hw⟩ := wp_ck hw
              refine G_iastore dX11_worked_119 c31 c32 ?_
              refine G.nmh fun h33 eh33 => ?_
              have hw := wp_bd hw h33 eh33
              refine G_goto (tgt := 329) dX11_worked_120 rfl ?_
              refine G.less [some (.ref l0), some (.int l1), some (.int l2), some (.int l3), none, none] ⟨rfl, ⟨rfl, ⟨rfl, ⟨rfl, trivial⟩⟩⟩⟩ ?_
              exact f_X11_worked_329_ok hs hK_14 _ _ _ _ h33 Q hw
          · have hw := hw.1 c19
            refine G.less [some (.ref l0), some (.int l1), some (.int l2), some (.int l3), some (.int v15), none] ⟨rfl, ⟨rfl, ⟨rfl, ⟨rfl, ⟨rfl, trivial⟩⟩⟩⟩⟩ ?_
            exact f_X11_worked_89_ok hs hK_14 _ _ _ _ _ h Q hw
      · have hw := hw.1 c17
        refine G.less [some (.ref l0), some (.int l1), some (.int l2), some (.int l3), some (.int v15), none] ⟨rfl, ⟨rfl, ⟨rfl, ⟨rfl, ⟨rfl, trivial⟩⟩⟩⟩⟩ ?_
        exact f_X11_worked_46_ok hs hK_14 _ _ _ _ _ h Q hw
theorem f_X11_worked_14_ok {Γ : GX} (hs : SF Γ) {N : Nat} : ∀ (n : Nat) (l0 : Nat) (l1 : Int32) (l2 : Int32) (l3 : Int32) (h : PH) (Q : Int32 → PH → Prop), wp (f_X11_worked_14 N n l0 l1 l2 l3 h) Q → G Γ yX11_worked cX11_worked 6 (some .int) (3, 0, 0) 14 [some (.ref l0), some (.int l1), some (.int l2), some (.int l3), none, none] [] h (0, 0) (q_i Q)
  | 0, _, _, _, _, _, Q, hw => (wp_no hw).elim
  | n + 1, l0, l1, l2, l3, h, Q, hw => f_X11_worked_14_bok (N := N) hs (f_X11_worked_14_ok (N := N) hs n) l0 l1 l2 l3 h Q hw
set_option maxHeartbeats 4000000 in
set_option maxRecDepth 100000 in
theorem s_X11_worked {Γ : GX} (hs : SF Γ) {N : Nat} (l0 : Nat) (l1 : Int32) (h : PH) (Q : Int32 → PH → Prop) (hw : wp (f_X11_worked N l0 l1 h) Q) : Spec Γ yX11_worked cX11_worked 6 (some .int) (3, 0, 0) [.ref l0, .int l1] h (q_i Q) := by
  refine Spec.of (by decide) (Nat.le_of_ble_eq_true rfl) [some (.ref l0), some (.int l1), none, none, none, none] rfl ?_
  unfold f_X11_worked at hw
  refine G_iconst (v := (0 : Int32)) dX11_worked_0 (by decide) ?_
  refine G_istore_n (lv' := [some (.ref l0), some (.int l1), some (.int (0 : Int32)), none, none, none]) dX11_worked_1 (Nat.le_of_ble_eq_true rfl) rfl ?_
  refine G_aload_n dX11_worked_2 rfl ?_
  refine G_iconst (v := (0 : Int32)) dX11_worked_3 (by decide) ?_
  obtain ⟨c3, hw⟩ := wp_ck hw
  refine G_callV (As := [.int (0 : Int32)]) (s_X11_opens hs l0 (0 : Int32) h _ (wp_cl hw)) ca_X11_opens w_1822 w_85 (ci := 10) rfl (by decide) w_1820 c3 (Nat.le_of_ble_eq_true rfl) (Nat.le_of_ble_eq_true rfl) rfl (Nat.le_of_ble_eq_true rfl) (Nat.le_of_ble_eq_true rfl) (Nat.le_of_ble_eq_true rfl) dX11_worked_4 rfl (fun v h2 hq => ?_)
  obtain ⟨rfl, hw⟩ := hq
  refine G.cse (cs' := (0, 0)) rfl ?_
  show GZ _ _ _ _ _ _ _ 7 _ [] _ _
  refine G_aload_n dX11_worked_7 rfl ?_
  obtain ⟨c4, hw⟩ := wp_ck hw
  refine G_getR fl_X11_lineFrom w_1413 dX11_worked_8 c4 ?_
  obtain ⟨a5, ea5, hw⟩ := wp_rq hw
  refine G.sure ea5 ?_
  refine G_iload_n dX11_worked_11 rfl ?_
  obtain ⟨c6, hw⟩ := wp_ck hw
  obtain ⟨c7, hw⟩ := wp_ck hw
  refine G_iaload dX11_worked_12 c6 c7 ?_
  refine G.topi fun v8 ev8 => ?_
  have hw := wp_bd hw v8 ev8
  refine G_istore_n (lv' := [some (.ref l0), some (.int l1), some (.int (0 : Int32)), some (.int v8), none, none]) dX11_worked_13 (Nat.le_of_ble_eq_true rfl) rfl ?_
  refine G.less [some (.ref l0), some (.int l1), some (.int (0 : Int32)), some (.int v8), none, none] ⟨rfl, ⟨rfl, ⟨rfl, ⟨rfl, trivial⟩⟩⟩⟩ ?_
  exact f_X11_worked_14_ok hs N _ _ _ _ h2 Q hw
set_option maxHeartbeats 4000000 in
set_option maxRecDepth 100000 in
theorem s_X11_isKept {Γ : GX} (hs : SF Γ) {N : Nat} (l0 : Nat) (h : PH) (Q : Int32 → PH → Prop) (hw : wp (f_X11_isKept N l0 h) Q) : Spec Γ yX11_isKept cX11_isKept 1 (some .boolean) (1, 0, 0) [.ref l0] h (q_i Q) := by
  refine Spec.of (by decide) (Nat.le_of_ble_eq_true rfl) [some (.ref l0)] rfl ?_
  unfold f_X11_isKept at hw
  refine G_aload_n dX11_isKept_0 rfl ?_
  obtain ⟨c1, hw⟩ := wp_ck hw
  refine G_getI fl_X11_token w_1399 dX11_isKept_1 c1 ?_
  refine G_iconst (v := (1 : Int32)) dX11_isKept_4 (by decide) ?_
  have hw := wp_if hw
  refine G_icmp_eq (tgt := 10) dX11_isKept_5 rfl (fun c2 => ?_) (fun c2 => ?_)
  · have hw := hw.1 c2
    refine G_aload_n dX11_isKept_10 rfl ?_
    refine G_getJ fl_X11_word w_1400 dX11_isKept_11 c1 ?_
    refine G_ldc2 (v := (133554 : Int64)) dX11_isKept_14 w_1624 ?_
    refine G_lcmp dX11_isKept_17 ?_
    have hw := wp_if hw
    refine G_if_eq (tgt := 252) dX11_isKept_18 rfl (fun c3 => ?_) (fun c3 => ?_)
    · have hw := hw.1 c3
      refine G_iconst (v := (1 : Int32)) dX11_isKept_252 (by decide) ?_
      refine G_goto (tgt := 257) dX11_isKept_253 rfl ?_
      exact G_zreturn rfl dX11_isKept_257 rfl ⟨_, rfl, wp_ret hw⟩
    · have hw := hw.2 c3
      refine G_aload_n dX11_isKept_21 rfl ?_
      refine G_getJ fl_X11_word w_1400 dX11_isKept_22 c1 ?_
      refine G_ldc2 (v := (79958 : Int64)) dX11_isKept_25 w_1645 ?_
      refine G_lcmp dX11_isKept_28 ?_
      have hw := wp_if hw
      refine G_if_eq (tgt := 252) dX11_isKept_29 rfl (fun c4 => ?_) (fun c4 => ?_)
      · have hw := hw.1 c4
        refine G_iconst (v := (1 : Int32)) dX11_isKept_252 (by decide) ?_
        refine G_goto (tgt := 257) dX11_isKept_253 rfl ?_
        exact G_zreturn rfl dX11_isKept_257 rfl ⟨_, rfl, wp_ret hw⟩
      · have hw := hw.2 c4
        refine G_aload_n dX11_isKept_32 rfl ?_
        refine G_getJ fl_X11_word w_1400 dX11_isKept_33 c1 ?_
        refine G_ldc2 (v := (10553888 : Int64)) dX11_isKept_36 w_1646 ?_
        refine G_lcmp dX11_isKept_39 ?_
        have hw := wp_if hw
        refine G_if_eq (tgt := 252) dX11_isKept_40 rfl (fun c5 => ?_) (fun c5 => ?_)
        · have hw := hw.1 c5
          refine G_iconst (v := (1 : Int32)) dX11_isKept_252 (by decide) ?_
          refine G_goto (tgt := 257) dX11_isKept_253 rfl ?_
          exact G_zreturn rfl dX11_isKept_257 rfl ⟨_, rfl, wp_ret hw⟩
        · have hw := hw.2 c5
          refine G_aload_n dX11_isKept_43 rfl ?_
          refine G_getJ fl_X11_word w_1400 dX11_isKept_44 c1 ?_
          refine G_ldc2 (v := (1489744 : Int64)) dX11_isKept_47 w_1647 ?_
          refine G_lcmp dX11_isKept_50 ?_
          have hw := wp_if hw
          refine G_if_eq (tgt := 252) dX11_isKept_51 rfl (fun c6 => ?_) (fun c6 => ?_)
          · have hw := hw.1 c6
            refine G_iconst (v := (1 : Int32)) dX11_isKept_252 (by decide) ?_
            refine G_goto (tgt := 257) dX11_isKept_253 rfl ?_
            exact G_zreturn rfl dX11_isKept_257 rfl ⟨_, rfl, wp_ret hw⟩
          · have hw := hw.2 c6
            refine G_aload_n dX11_isKept_54 rfl ?_
            refine G_getJ fl_X11_word w_1400 dX11_isKept_55 c1 ?_
            refine G_ldc2 (v := (127418 : Int64)) dX11_isKept_58 w_1648 ?_
            refine G_lcmp dX11_isKept_61 ?_
            have hw := wp_if hw
            refine G_if_eq (tgt := 252) dX11_isKept_62 rfl (fun c7 => ?_) (fun c7 => ?_)
            · have hw := hw.1 c7
              refine G_iconst (v := (1 : Int32)) dX11_isKept_252 (by decide) ?_
              refine G_goto (tgt := 257) dX11_isKept_253 rfl ?_
              exact G_zreturn rfl dX11_isKept_257 rfl ⟨_, rfl, wp_ret hw⟩
            · have hw := hw.2 c7
              refine G_aload_n dX11_isKept_65 rfl ?_
              refine G_getJ fl_X11_word w_1400 dX11_isKept_66 c1 ?_
              refine G_ldc2 (v := (4562600 : Int64)) dX11_isKept_69 w_1649 ?_
              refine G_lcmp dX11_isKept_72 ?_
              have hw := wp_if hw
              refine G_if_eq (tgt := 252) dX11_isKept_73 rfl (fun c8 => ?_) (fun c8 => ?_)
              · have hw := hw.1 c8
                refine G_iconst (v := (1 : Int32)) dX11_isKept_252 (by decide) ?_
                refine G_goto (tgt := 257) dX11_isKept_253 rfl ?_
                exact G_zreturn rfl dX11_isKept_257 rfl ⟨_, rfl, wp_ret hw⟩
              · have hw := hw.2 c8
                refine G_aload_n dX11_isKept_76 rfl ?_
                refine G_getJ fl_X11_word w_1400 dX11_isKept_77 c1 ?_
                refine G_ldc2 (v := (47 : Int64)) dX11_isKept_80 w_1650 ?_
                refine G_lcmp dX11_isKept_83 ?_
                have hw := wp_if hw
                refine G_if_eq (tgt := 252) dX11_isKept_84 rfl (fun c9 => ?_) (fun c9 => ?_)
                · have hw := hw.1 c9
                  refine G_iconst (v := (1 : Int32)) dX11_isKept_252 (by decide) ?_
                  refine G_goto (tgt := 257) dX11_isKept_253 rfl ?_
                  exact G_zreturn rfl dX11_isKept_257 rfl ⟨_, rfl, wp_ret hw⟩
                · have hw := hw.2 c9
                  refine G_aload_n dX11_isKept_87 rfl ?_
                  refine G_getJ fl_X11_word w_1400 dX11_isKept_88 c1 ?_
                  refine G_ldc2 (v := (10502066 : Int64)) dX11_isKept_91 w_1651 ?_
                  refine G_lcmp dX11_isKept_94 ?_
                  have hw := wp_if hw
                  refine G_if_eq (tgt := 252) dX11_isKept_95 rfl (fun c10 => ?_) (fun c10 => ?_)
                  · have hw := hw.1 c10
                    refine G_iconst (v := (1 : Int32)) dX11_isKept_252 (by decide) ?_
                    refine G_goto (tgt := 257) dX11_isKept_253 rfl ?_
                    exact G_zreturn rfl dX11_isKept_257 rfl ⟨_, rfl, wp_ret hw⟩
                  · have hw := hw.2 c10
                    refine G_aload_n dX11_isKept_98 rfl ?_
                    refine G_getJ fl_X11_word w_1400 dX11_isKept_99 c1 ?_
                    refine G_ldc2 (v := (380741 : Int64)) dX11_isKept_102 w_1652 ?_
                    refine G_lcmp dX11_isKept_105 ?_
                    have hw := wp_if hw
                    refine G_if_eq (tgt := 252) dX11_isKept_106 rfl (fun c11 => ?_) (fun c11 => ?_)
                    · have hw := hw.1 c11
                      refine G_iconst (v := (1 : Int32)) dX11_isKept_252 (by decide) ?_
                      refine G_goto (tgt := 257) dX11_isKept_253 rfl ?_
                      exact G_zreturn rfl dX11_isKept_257 rfl ⟨_, rfl, wp_ret hw⟩
                    · have hw := hw.2 c11
                      refine G_aload_n dX11_isKept_109 rfl ?_
                      refine G_getJ fl_X11_word w_1400 dX11_isKept_110 c1 ?_
                      refine G_ldc2 (v := (555 : Int64)) dX11_isKept_113 w_1653 ?_
                      refine G_lcmp dX11_isKept_116 ?_
                      have hw := wp_if hw
                      refine G_if_eq (tgt := 252) dX11_isKept_117 rfl (fun c12 => ?_) (fun c12 => ?_)
                      · have hw := hw.1 c12
                        refine G_iconst (v := (1 : Int32)) dX11_isKept_252 (by decide) ?_
                        refine G_goto (tgt := 257) dX11_isKept_253 rfl ?_
                        exact G_zreturn rfl dX11_isKept_257 rfl ⟨_, rfl, wp_ret hw⟩
                      · have hw := hw.2 c12
                        refine G_aload_n dX11_isKept_120 rfl ?_
                        refine G_getJ fl_X11_word w_1400 dX11_isKept_121 c1 ?_
                        refine G_ldc2 (v := (8935714008 : Int64)) dX11_isKept_124 w_1654 ?_
                        refine G_lcmp dX11_isKept_127 ?_
                        have hw := wp_if hw
                        refine G_if_eq (tgt := 252) dX11_isKept_128 rfl (fun c13 => ?_) (fun c13 => ?_)
                        · have hw := hw.1 c13
                          refine G_iconst (v := (1 : Int32)) dX11_isKept_252 (by decide) ?_
                          refine G_goto (tgt := 257) dX11_isKept_253 rfl ?_
                          exact G_zreturn rfl dX11_isKept_257 rfl ⟨_, rfl, wp_ret hw⟩
                        · have hw := hw.2 c13
                          refine G_aload_n dX11_isKept_131 rfl ?_
                          refine G_getJ fl_X11_word w_1400 dX11_isKept_132 c1 ?_
                          refine G_ldc2 (v := (377776 : Int64)) dX11_isKept_135 w_1655 ?_
                          refine G_lcmp dX11_isKept_138 ?_
                          have hw := wp_if hw
                          refine G_if_eq (tgt := 252) dX11_isKept_139 rfl (fun c14 => ?_) (fun c14 => ?_)
                          · have hw := hw.1 c14
                            refine G_iconst (v := (1 : Int32)) dX11_isKept_252 (by decide) ?_
                            refine G_goto (tgt := 257) dX11_isKept_253 rfl ?_
                            exact G_zreturn rfl dX11_isKept_257 rfl ⟨_, rfl, wp_ret hw⟩
                          · have hw := hw.2 c14
                            refine G_aload_n dX11_isKept_142 rfl ?_
                            refine G_getJ fl_X11_word w_1400 dX11_isKept_143 c1 ?_
                            refine G_ldc2 (v := (50849 : Int64)) dX11_isKept_146 w_1656 ?_
                            refine G_lcmp dX11_isKept_149 ?_
                            have hw := wp_if hw
                            refine G_if_eq (tgt := 252) dX11_isKept_150 rfl (fun c15 => ?_) (fun c15 => ?_)
                            · have hw := hw.1 c15
                              refine G_iconst (v := (1 : Int32)) dX11_isKept_252 (by decide) ?_
                              refine G_goto (tgt := 257) dX11_isKept_253 rfl ?_
                              exact G_zreturn rfl dX11_isKept_257 rfl ⟨_, rfl, wp_ret hw⟩
                            · have hw := hw.2 c15
                              refine G_aload_n dX11_isKept_153 rfl ?_
                              refine G_getJ fl_X11_word w_1400 dX11_isKept_154 c1 ?_
                              refine G_ldc2 (v := (12410623 : Int64)) dX11_isKept_157 w_1657 ?_
                              refine G_lcmp dX11_isKept_160 ?_
                              have hw := wp_if hw
                              refine G_if_eq (tgt := 252) dX11_isKept_161 rfl (fun c16 => ?_) (fun c16 => ?_)
                              · have hw := hw.1 c16
                                refine G_iconst (v := (1 : Int32)) dX11_isKept_252 (by decide) ?_
                                refine G_goto (tgt := 257) dX11_isKept_253 rfl ?_
                                exact G_zreturn rfl dX11_isKept_257 rfl ⟨_, rfl, wp_ret hw⟩
                              · have hw := hw.2 c16
                                refine G_aload_n dX11_isKept_164 rfl ?_
                                refine G_getJ fl_X11_word w_1400 dX11_isKept_165 c1 ?_
                                refine G_ldc2 (v := (3913426 : Int64)) dX11_isKept_168 w_1658 ?_
                                refine G_lcmp dX11_isKept_171 ?_
                                have hw := wp_if hw
                                refine G_if_eq (tgt := 252) dX11_isKept_172 rfl (fun c17 => ?_) (fun c17 => ?_)
                                · have hw := hw.1 c17
                                  refine G_iconst (v := (1 : Int32)) dX11_isKept_252 (by decide) ?_
                                  refine G_goto (tgt := 257) dX11_isKept_253 rfl ?_
                                  exact G_zreturn rfl dX11_isKept_257 rfl ⟨_, rfl, wp_ret hw⟩
                                · have hw := hw.2 c17
                                  refine G_aload_n dX11_isKept_175 rfl ?_
                                  refine G_getJ fl_X11_word w_1400 dX11_isKept_176 c1 ?_
                                  refine G_ldc2 (v := (10404118 : Int64)) dX11_isKept_179 w_1659 ?_
                                  refine G_lcmp dX11_isKept_182 ?_
                                  have hw := wp_if hw
                                  refine G_if_eq (tgt := 252) dX11_isKept_183 rfl (fun c18 => ?_) (fun c18 => ?_)
                                  · have hw := hw.1 c18
                                    refine G_iconst (v := (1 : Int32)) dX11_isKept_252 (by decide) ?_
                                    refine G_goto (tgt := 257) dX11_isKept_253 rfl ?_
                                    exact G_zreturn rfl dX11_isKept_257 rfl ⟨_, rfl, wp_ret hw⟩
                                  · have hw := hw.2 c18
                                    refine G_aload_n dX11_isKept_186 rfl ?_
                                    refine G_getJ fl_X11_word w_1400 dX11_isKept_187 c1 ?_
                                    refine G_ldc2 (v := (55175 : Int64)) dX11_isKept_190 w_1660 ?_
                                    refine G_lcmp dX11_isKept_193 ?_
                                    have hw := wp_if hw
                                    refine G_if_eq (tgt := 252) dX11_isKept_194 rfl (fun c19 => ?_) (fun c19 => ?_)
                                    · have hw := hw.1 c19
                                      refine G_iconst (v := (1 : Int32)) dX11_isKept_252 (by decide) ?_
                                      refine G_goto (tgt := 257) dX11_isKept_253 rfl ?_
                                      exact G_zreturn rfl dX11_isKept_257 rfl ⟨_, rfl, wp_ret hw⟩
                                    · have hw := hw.2 c19
                                      refine G_aload_n dX11_isKept_197 rfl ?_
                                      refine G_getJ fl_X11_word w_1400 dX11_isKept_198 c1 ?_
                                      refine G_ldc2 (v := (240223 : Int64)) dX11_isKept_201 w_1661 ?_
                                      refine G_lcmp dX11_isKept_204 ?_
                                      have hw := wp_if hw
                                      refine G_if_eq (tgt := 252) dX11_isKept_205 rfl (fun c20 => ?_) (fun c20 => ?_)
                                      · have hw := hw.1 c20
                                        refine G_iconst (v := (1 : Int32)) dX11_isKept_252 (by decide) ?_
                                        refine G_goto (tgt := 257) dX11_isKept_253 rfl ?_
                                        exact G_zreturn rfl dX11_isKept_257 rfl ⟨_, rfl, wp_ret hw⟩
                                      · have hw := hw.2 c20
                                        refine G_aload_n dX11_isKept_208 rfl ?_
                                        refine G_getJ fl_X11_word w_1400 dX11_isKept_209 c1 ?_
                                        refine G_ldc2 (v := (168984 : Int64)) dX11_isKept_212 w_1662 ?_
                                        refine G_lcmp dX11_isKept_215 ?_
                                        have hw := wp_if hw
                                        refine G_if_eq (tgt := 252) dX11_isKept_216 rfl (fun c21 => ?_) (fun c21 => ?_)
                                        · have hw := hw.1 c21
                                          refine G_iconst (v := (1 : Int32)) dX11_isKept_252 (by decide) ?_
                                          refine G_goto (tgt := 257) dX11_isKept_253 rfl ?_
                                          exact G_zreturn rfl dX11_isKept_257 rfl ⟨_, rfl, wp_ret hw⟩
                                        · have hw := hw.2 c21
                                          refine G_aload_n dX11_isKept_219 rfl ?_
                                          refine G_getJ fl_X11_word w_1400 dX11_isKept_220 c1 ?_
                                          refine G_ldc2 (v := (10631 : Int64)) dX11_isKept_223 w_1663 ?_
                                          refine G_lcmp dX11_isKept_226 ?_
                                          have hw := wp_if hw
                                          refine G_if_eq (tgt := 252) dX11_isKept_227 rfl (fun c22 => ?_) (fun c22 => ?_)
                                          · have hw := hw.1 c22
                                            refine G_iconst (v := (1 : Int32)) dX11_isKept_252 (by decide) ?_
                                            refine G_goto (tgt := 257) dX11_isKept_253 rfl ?_
                                            exact G_zreturn rfl dX11_isKept_257 rfl ⟨_, rfl, wp_ret hw⟩
                                          · have hw := hw.2 c22
                                            refine G_aload_n dX11_isKept_230 rfl ?_
                                            refine G_getJ fl_X11_word w_1400 dX11_isKept_231 c1 ?_
                                            refine G_ldc2 (v := (1111 : Int64)) dX11_isKept_234 w_1664 ?_
                                            refine G_lcmp dX11_isKept_237 ?_
                                            have hw := wp_if hw
                                            refine G_if_eq (tgt := 252) dX11_isKept_238 rfl (fun c23 => ?_) (fun c23 => ?_)
                                            · have hw := hw.1 c23
                                              refine G_iconst (v := (1 : Int32)) dX11_isKept_252 (by decide) ?_
                                              refine G_goto (tgt := 257) dX11_isKept_253 rfl ?_
                                              exact G_zreturn rfl dX11_isKept_257 rfl ⟨_, rfl, wp_ret hw⟩
                                            · have hw := hw.2 c23
                                              refine G_aload_n dX11_isKept_241 rfl ?_
                                              refine G_getJ fl_X11_word w_1400 dX11_isKept_242 c1 ?_
                                              refine G_ldc2 (v := (423 : Int64)) dX11_isKept_245 w_1665 ?_
                                              refine G_lcmp dX11_isKept_248 ?_
                                              have hw := wp_if hw
                                              refine G_if_ne (tgt := 256) dX11_isKept_249 rfl (fun c24 => ?_) (fun c24 => ?_)
                                              · have hw := hw.2 c24
                                                refine G_iconst (v := (0 : Int32)) dX11_isKept_256 (by decide) ?_
                                                exact G_zreturn rfl dX11_isKept_257 rfl ⟨_, rfl, wp_ret hw⟩
                                              · have hw := hw.1 c24
                                                refine G_iconst (v := (1 : Int32)) dX11_isKept_252 (by decide) ?_
                                                refine G_goto (tgt := 257) dX11_isKept_253 rfl ?_
                                                exact G_zreturn rfl dX11_isKept_257 rfl ⟨_, rfl, wp_ret hw⟩
  · have hw := hw.2 c2
    refine G_iconst (v := (1 : Int32)) dX11_isKept_8 (by decide) ?_
    exact G_zreturn rfl dX11_isKept_9 rfl ⟨_, rfl, wp_ret hw⟩
set_option maxHeartbeats 4000000 in
set_option maxRecDepth 100000 in
theorem s_X11_firstName {Γ : GX} (hs : SF Γ) {N : Nat} (l0 : Int32) (h : PH) (Q : Int32 → PH → Prop) (hw : wp (f_X11_firstName N l0 h) Q) : Spec Γ yX11_firstName cX11_firstName 1 (some .int) (1, 0, 0) [.int l0] h (q_i Q) := by
  refine Spec.of (by decide) (Nat.le_of_ble_eq_true rfl) [some (.int l0)] rfl ?_
  unfold f_X11_firstName at hw
  refine G_iload_n dX11_firstName_0 rfl ?_
  have hw := wp_if hw
  refine G_if_ne (tgt := 8) dX11_firstName_1 rfl (fun c1 => ?_) (fun c1 => ?_)
  · have hw := hw.2 c1
    refine G_iload_n dX11_firstName_8 rfl ?_
    refine G_iconst (v := (1 : Int32)) dX11_firstName_9 (by decide) ?_
    have hw := wp_if hw
    refine G_icmp_ne (tgt := 17) dX11_firstName_10 rfl (fun c2 => ?_) (fun c2 => ?_)
    · have hw := hw.2 c2
      refine G_iload_n dX11_firstName_17 rfl ?_
      refine G_iconst (v := (2 : Int32)) dX11_firstName_18 (by decide) ?_
      have hw := wp_if hw
      refine G_icmp_ne (tgt := 27) dX11_firstName_19 rfl (fun c3 => ?_) (fun c3 => ?_)
      · have hw := hw.2 c3
        refine G_iload_n dX11_firstName_27 rfl ?_
        refine G_iconst (v := (3 : Int32)) dX11_firstName_28 (by decide) ?_
        have hw := wp_if hw
        refine G_icmp_ne (tgt := 37) dX11_firstName_29 rfl (fun c4 => ?_) (fun c4 => ?_)
        · have hw := hw.2 c4
          refine G_bipush (v := (18 : Int32)) dX11_firstName_37 (by decide) ?_
          exact G_ireturn rfl dX11_firstName_39 ⟨_, rfl, wp_ret hw⟩
        · have hw := hw.1 c4
          refine G_bipush (v := (12 : Int32)) dX11_firstName_32 (by decide) ?_
          refine G_goto (tgt := 39) dX11_firstName_34 rfl ?_
          exact G_ireturn rfl dX11_firstName_39 ⟨_, rfl, wp_ret hw⟩
      · have hw := hw.1 c3
        refine G_bipush (v := (8 : Int32)) dX11_firstName_22 (by decide) ?_
        refine G_goto (tgt := 39) dX11_firstName_24 rfl ?_
        exact G_ireturn rfl dX11_firstName_39 ⟨_, rfl, wp_ret hw⟩
    · have hw := hw.1 c2
      refine G_iconst (v := (5 : Int32)) dX11_firstName_13 (by decide) ?_
      refine G_goto (tgt := 39) dX11_firstName_14 rfl ?_
      exact G_ireturn rfl dX11_firstName_39 ⟨_, rfl, wp_ret hw⟩
  · have hw := hw.1 c1
    refine G_iconst (v := (0 : Int32)) dX11_firstName_4 (by decide) ?_
    refine G_goto (tgt := 39) dX11_firstName_5 rfl ?_
    exact G_ireturn rfl dX11_firstName_39 ⟨_, rfl, wp_ret hw⟩
set_option maxHeartbeats 4000000 in
set_option maxRecDepth 100000 in
theorem f_X11_named_13_bok {Γ : GX} (hs : SF Γ) {N : Nat} {K_13 : Nat → Int32 → Int32 → Int32 → Int32 → PH → Option (Int32 × PH)} (hK_13 : ∀ (l0 : Nat) (l1 : Int32) (l2 : Int32) (l3 : Int32) (l4 : Int32) (h : PH) (Q : Int32 → PH → Prop), wp (K_13 l0 l1 l2 l3 l4 h) Q → G Γ yX11_named cX11_named 5 (some .int) (2, 0, 0) 13 [some (.ref l0), some (.int l1), some (.int l2), some (.int l3), some (.int l4)] [] h (0, 0) (q_i Q)) (l0 : Nat) (l1 : Int32) (l2 : Int32) (l3 : Int32) (l4 : Int32) (h : PH) (Q : Int32 → PH → Prop) (hw : wp (f_X11_named_13_b N K_13 l0 l1 l2 l3 l4 h) Q) : G Γ yX11_named cX11_named 5 (some .int) (2, 0, 0) 13 [some (.ref l0), some (.int l1), some (.int l2), some (.int l3), some (.int l4)] [] h (0, 0) (q_i Q) := by
  unfold f_X11_named_13_b at hw
  refine G_iload dX11_named_13 rfl ?_
  refine G_aload_n dX11_named_15 rfl ?_
  obtain ⟨c1, hw⟩ := wp_ck hw
  refine G_getR fl_X11_valley w_1403 dX11_named_16 c1 ?_
  obtain ⟨a2, ea2, hw⟩ := wp_rq hw
  refine G.sure ea2 ?_
  refine G_bipush (v := (6 : Int32)) dX11_named_19 (by decide) ?_
  refine G_iload_n dX11_named_21 rfl ?_
  refine G_imul dX11_named_22 ?_
  refine G_iload_n dX11_named_23 rfl ?_
  refine G_iadd dX11_named_24 ?_
  obtain ⟨c3, hw⟩ := wp_ck hw
  obtain ⟨c4, hw⟩ := wp_ck hw
  refine G_iaload dX11_named_25 c3 c4 ?_
  have hw := wp_if hw
  refine G_icmp_ge (tgt := 55) dX11_named_26 rfl (fun c5 => ?_) (fun c5 => ?_)
  · have hw := hw.1 c5
    refine G_iconst (v := (-1 : Int32)) dX11_named_55 (by decide) ?_
    exact G_ireturn rfl dX11_named_56 ⟨_, rfl, wp_ret hw⟩
  · have hw := hw.2 c5
    refine G_aload_n dX11_named_29 rfl ?_
    refine G_getR fl_X11_names w_1404 dX11_named_30 c1 ?_
    obtain ⟨a6, ea6, hw⟩ := wp_rq hw
    refine G.sure ea6 ?_
    refine G_iload_n dX11_named_33 rfl ?_
    refine G_iload dX11_named_34 rfl ?_
    refine G_iadd dX11_named_36 ?_
    obtain ⟨c7, hw⟩ := wp_ck hw
    obtain ⟨c8, hw⟩ := wp_ck hw
    refine G_laload dX11_named_37 c7 c8 ?_
    refine G_aload_n dX11_named_38 rfl ?_
    refine G_getJ fl_X11_word w_1400 dX11_named_39 c1 ?_
    refine G_lcmp dX11_named_42 ?_
    have hw := wp_if hw
    refine G_if_ne (tgt := 49) dX11_named_43 rfl (fun c9 => ?_) (fun c9 => ?_)
    · have hw := hw.2 c9
      obtain ⟨v10, ev10⟩ : ∃ z : Int32, z = l4 + (1 : Int32) := ⟨_, rfl⟩
      have hw := wp_bd hw v10 ev10
      refine G_iinc (v := v10) (lv' := [some (.ref l0), some (.int l1), some (.int l2), some (.int l3), some (.int v10)]) dX11_named_49 rfl (by rw [ev10]; rfl) (Nat.le_of_ble_eq_true rfl) rfl ?_
      refine G_goto (tgt := 13) dX11_named_52 rfl ?_
      refine G.less [some (.ref l0), some (.int l1), some (.int l2), some (.int l3), some (.int v10)] ⟨rfl, ⟨rfl, ⟨rfl, ⟨rfl, ⟨rfl, trivial⟩⟩⟩⟩⟩ ?_
      exact hK_13 _ _ _ _ _ h Q hw
    · have hw := hw.1 c9
      refine G_iload dX11_named_46 rfl ?_
      exact G_ireturn rfl dX11_named_48 ⟨_, rfl, wp_ret hw⟩
theorem f_X11_named_13_ok {Γ : GX} (hs : SF Γ) {N : Nat} : ∀ (n : Nat) (l0 : Nat) (l1 : Int32) (l2 : Int32) (l3 : Int32) (l4 : Int32) (h : PH) (Q : Int32 → PH → Prop), wp (f_X11_named_13 N n l0 l1 l2 l3 l4 h) Q → G Γ yX11_named cX11_named 5 (some .int) (2, 0, 0) 13 [some (.ref l0), some (.int l1), some (.int l2), some (.int l3), some (.int l4)] [] h (0, 0) (q_i Q)
  | 0, _, _, _, _, _, _, Q, hw => (wp_no hw).elim
  | n + 1, l0, l1, l2, l3, l4, h, Q, hw => f_X11_named_13_bok (N := N) hs (f_X11_named_13_ok (N := N) hs n) l0 l1 l2 l3 l4 h Q hw
set_option maxHeartbeats 4000000 in
set_option maxRecDepth 100000 in
theorem s_X11_named {Γ : GX} (hs : SF Γ) {N : Nat} (l0 : Nat) (l1 : Int32) (l2 : Int32) (h : PH) (Q : Int32 → PH → Prop) (hw : wp (f_X11_named N l0 l1 l2 h) Q) : Spec Γ yX11_named cX11_named 5 (some .int) (2, 0, 0) [.ref l0, .int l1, .int l2] h (q_i Q) := by
  refine Spec.of (by decide) (Nat.le_of_ble_eq_true rfl) [some (.ref l0), some (.int l1), some (.int l2), none, none] rfl ?_
  unfold f_X11_named at hw
  refine G_bipush (v := (22 : Int32)) dX11_named_0 (by decide) ?_
  refine G_iload_n dX11_named_2 rfl ?_
  refine G_imul dX11_named_3 ?_
  refine G_iload_n dX11_named_4 rfl ?_
  refine G_callS (As := [.int l2]) (s_X11_firstName hs l2 h _ (wp_cl hw)) ca_X11_firstName w_1671 w_1670 (Nat.le_of_ble_eq_true rfl) (Nat.le_of_ble_eq_true rfl) rfl (Nat.le_of_ble_eq_true rfl) (Nat.le_of_ble_eq_true rfl) (Nat.le_of_ble_eq_true rfl) dX11_named_5 rfl (fun v h2 hq => ?_)
  obtain ⟨r1, rfl, hw⟩ := hq
  refine G.cse (cs' := (0, 0)) rfl ?_
  show GZ _ _ _ _ _ _ _ 8 _ (.int r1 :: [.int ((22 : Int32) * l1)]) _ _
  refine G_iadd dX11_named_8 ?_
  refine G.topi fun v3 ev3 => ?_
  have hw := wp_bd hw v3 ev3
  refine G_istore_n (lv' := [some (.ref l0), some (.int l1), some (.int l2), some (.int v3), none]) dX11_named_9 (Nat.le_of_ble_eq_true rfl) rfl ?_
  refine G_iconst (v := (0 : Int32)) dX11_named_10 (by decide) ?_
  refine G_istore (lv' := [some (.ref l0), some (.int l1), some (.int l2), some (.int v3), some (.int (0 : Int32))]) dX11_named_11 (Nat.le_of_ble_eq_true rfl) rfl ?_
  refine G.less [some (.ref l0), some (.int l1), some (.int l2), some (.int v3), some (.int (0 : Int32))] ⟨rfl, ⟨rfl, ⟨rfl, ⟨rfl, ⟨rfl, trivial⟩⟩⟩⟩⟩ ?_
  exact f_X11_named_13_ok hs N _ _ _ _ _ h2 Q hw
set_option maxHeartbeats 4000000 in
set_option maxRecDepth 100000 in
theorem s_X11_needsNumber {Γ : GX} (hs : SF Γ) {N : Nat} (l0 : Nat) (l1 : Int32) (l2 : Int32) (h : PH) (Q : Int32 → PH → Prop) (hw : wp (f_X11_needsNumber N l0 l1 l2 h) Q) : Spec Γ yX11_needsNumber cX11_needsNumber 3 (some .boolean) (3, 0, 0) [.ref l0, .int l1, .int l2] h (q_i Q) := by
  refine Spec.of (by decide) (Nat.le_of_ble_eq_true rfl) [some (.ref l0), some (.int l1), some (.int l2)] rfl ?_
  unfold f_X11_needsNumber at hw
  refine G_aload_n dX11_needsNumber_0 rfl ?_
  obtain ⟨c1, hw⟩ := wp_ck hw
  refine G_getI fl_X11_token w_1399 dX11_needsNumber_1 c1 ?_
  refine G_iconst (v := (2 : Int32)) dX11_needsNumber_4 (by decide) ?_
  have hw := wp_if hw
  refine G_icmp_eq (tgt := 14) dX11_needsNumber_5 rfl (fun c2 => ?_) (fun c2 => ?_)
  · have hw := hw.1 c2
    refine G_aload_n dX11_needsNumber_14 rfl ?_
    refine G_getI fl_X11_told w_1401 dX11_needsNumber_15 c1 ?_
    refine G_iload_n dX11_needsNumber_18 rfl ?_
    refine G_iload_n dX11_needsNumber_19 rfl ?_
    refine G_callS (As := [.int (hI h l0 8), .int l1, .int l2]) (s_X11_within hs (hI h l0 8) l1 l2 h _ (wp_cl hw)) ca_X11_within w_1686 w_1685 (Nat.le_of_ble_eq_true rfl) (Nat.le_of_ble_eq_true rfl) rfl (Nat.le_of_ble_eq_true rfl) (Nat.le_of_ble_eq_true rfl) (Nat.le_of_ble_eq_true rfl) dX11_needsNumber_20 rfl (fun v h4 hq => ?_)
    obtain ⟨r3, rfl, hw⟩ := hq
    refine G.cse (cs' := (0, 0)) rfl ?_
    show GZ _ _ _ _ _ _ _ 23 _ (.int r3 :: []) _ _
    have hw := wp_if hw
    refine G_if_ne (tgt := 32) dX11_needsNumber_23 rfl (fun c5 => ?_) (fun c5 => ?_)
    · have hw := hw.2 c5
      refine G_aload_n dX11_needsNumber_32 rfl ?_
      refine G_aload_n dX11_needsNumber_33 rfl ?_
      obtain ⟨c6, hw⟩ := wp_ck hw
      refine G_getI fl_X11_told w_1401 dX11_needsNumber_34 c6 ?_
      refine G_putI fl_X11_given w_1430 dX11_needsNumber_37 c6 ?_
      refine G.nmh fun h7 eh7 => ?_
      have hw := wp_bd hw h7 eh7
      refine G_aload_n dX11_needsNumber_40 rfl ?_
      obtain ⟨c10, hw⟩ := wp_ck hw
      refine G_callV (As := []) (s_X11_nextToken hs l0 h7 _ (wp_cl hw)) ca_X11_nextToken w_1616 w_46 (ci := 10) rfl (by decide) w_1614 c10 (Nat.le_of_ble_eq_true rfl) (Nat.le_of_ble_eq_true rfl) rfl (Nat.le_of_ble_eq_true rfl) (Nat.le_of_ble_eq_true rfl) (Nat.le_of_ble_eq_true rfl) dX11_needsNumber_41 rfl (fun v h9 hq => ?_)
      obtain ⟨rfl, hw⟩ := hq
      refine G.cse (cs' := (0, 0)) rfl ?_
      show GZ _ _ _ _ _ _ _ 44 _ [] _ _
      refine G_iconst (v := (1 : Int32)) dX11_needsNumber_44 (by decide) ?_
      exact G_zreturn rfl dX11_needsNumber_45 rfl ⟨_, rfl, wp_ret hw⟩
    · have hw := hw.1 c5
      refine G_aload_n dX11_needsNumber_26 rfl ?_
      refine G_iconst (v := (4 : Int32)) dX11_needsNumber_27 (by decide) ?_
      obtain ⟨c13, hw⟩ := wp_ck hw
      refine G_callV (As := [.int (4 : Int32)]) (s_X11_fails hs l0 (4 : Int32) h4 _ (wp_cl hw)) ca_X11_fails w_1635 w_50 (ci := 10) rfl (by decide) w_1633 c13 (Nat.le_of_ble_eq_true rfl) (Nat.le_of_ble_eq_true rfl) rfl (Nat.le_of_ble_eq_true rfl) (Nat.le_of_ble_eq_true rfl) (Nat.le_of_ble_eq_true rfl) dX11_needsNumber_28 rfl (fun v h12 hq => ?_)
      obtain ⟨r11, rfl, hw⟩ := hq
      refine G.cse (cs' := (0, 0)) rfl ?_
      show GZ _ _ _ _ _ _ _ 31 _ (.int r11 :: []) _ _
      obtain ⟨c14, hw⟩ := wp_ck hw
      exact G_zreturn rfl dX11_needsNumber_31 (g_nb c14) ⟨_, rfl, wp_ret hw⟩
  · have hw := hw.2 c2
    refine G_aload_n dX11_needsNumber_8 rfl ?_
    refine G_iconst (v := (1 : Int32)) dX11_needsNumber_9 (by decide) ?_
    refine G_callV (As := [.int (1 : Int32)]) (s_X11_fails hs l0 (1 : Int32) h _ (wp_cl hw)) ca_X11_fails w_1635 w_50 (ci := 10) rfl (by decide) w_1633 c1 (Nat.le_of_ble_eq_true rfl) (Nat.le_of_ble_eq_true rfl) rfl (Nat.le_of_ble_eq_true rfl) (Nat.le_of_ble_eq_true rfl) (Nat.le_of_ble_eq_true rfl) dX11_needsNumber_10 rfl (fun v h16 hq => ?_)
    obtain ⟨r15, rfl, hw⟩ := hq
    refine G.cse (cs' := (0, 0)) rfl ?_
    show GZ _ _ _ _ _ _ _ 13 _ (.int r15 :: []) _ _
    obtain ⟨c17, hw⟩ := wp_ck hw
    exact G_zreturn rfl dX11_needsNumber_13 (g_nb c17) ⟨_, rfl, wp_ret hw⟩
set_option maxHeartbeats 4000000 in
set_option maxRecDepth 100000 in
theorem s_X11_needsWord {Γ : GX} (hs : SF Γ) {N : Nat} (l0 : Nat) (l1 : Int64) (h : PH) (Q : Int32 → PH → Prop) (hw : wp (f_X11_needsWord N l0 l1 h) Q) : Spec Γ yX11_needsWord cX11_needsWord 3 (some .boolean) (3, 0, 0) [.ref l0, .long l1] h (q_i Q) := by
  refine Spec.of (by decide) (Nat.le_of_ble_eq_true rfl) [some (.ref l0), some (.long l1), none] rfl ?_
  unfold f_X11_needsWord at hw
  refine G_aload_n dX11_needsWord_0 rfl ?_
  refine G_lload_n dX11_needsWord_1 rfl ?_
  obtain ⟨c3, hw⟩ := wp_ck hw
  refine G_callV (As := [.long l1]) (s_X11_isWord hs l0 l1 h _ (wp_cl hw)) ca_X11_isWord w_1627 w_48 (ci := 10) rfl (by decide) w_1625 c3 (Nat.le_of_ble_eq_true rfl) (Nat.le_of_ble_eq_true rfl) rfl (Nat.le_of_ble_eq_true rfl) (Nat.le_of_ble_eq_true rfl) (Nat.le_of_ble_eq_true rfl) dX11_needsWord_2 rfl (fun v h2 hq => ?_)
  obtain ⟨r1, rfl, hw⟩ := hq
  refine G.cse (cs' := (0, 0)) rfl ?_
  show GZ _ _ _ _ _ _ _ 5 _ (.int r1 :: []) _ _
  have hw := wp_if hw
  refine G_if_ne (tgt := 14) dX11_needsWord_5 rfl (fun c4 => ?_) (fun c4 => ?_)
  · have hw := hw.2 c4
    refine G_aload_n dX11_needsWord_14 rfl ?_
    obtain ⟨c7, hw⟩ := wp_ck hw
    refine G_callV (As := []) (s_X11_nextToken hs l0 h2 _ (wp_cl hw)) ca_X11_nextToken w_1616 w_46 (ci := 10) rfl (by decide) w_1614 c7 (Nat.le_of_ble_eq_true rfl) (Nat.le_of_ble_eq_true rfl) rfl (Nat.le_of_ble_eq_true rfl) (Nat.le_of_ble_eq_true rfl) (Nat.le_of_ble_eq_true rfl) dX11_needsWord_15 rfl (fun v h6 hq => ?_)
    obtain ⟨rfl, hw⟩ := hq
    refine G.cse (cs' := (0, 0)) rfl ?_
    show GZ _ _ _ _ _ _ _ 18 _ [] _ _
    refine G_iconst (v := (1 : Int32)) dX11_needsWord_18 (by decide) ?_
    exact G_zreturn rfl dX11_needsWord_19 rfl ⟨_, rfl, wp_ret hw⟩
  · have hw := hw.1 c4
    refine G_aload_n dX11_needsWord_8 rfl ?_
    refine G_iconst (v := (1 : Int32)) dX11_needsWord_9 (by decide) ?_
    obtain ⟨c10, hw⟩ := wp_ck hw
    refine G_callV (As := [.int (1 : Int32)]) (s_X11_fails hs l0 (1 : Int32) h2 _ (wp_cl hw)) ca_X11_fails w_1635 w_50 (ci := 10) rfl (by decide) w_1633 c10 (Nat.le_of_ble_eq_true rfl) (Nat.le_of_ble_eq_true rfl) rfl (Nat.le_of_ble_eq_true rfl) (Nat.le_of_ble_eq_true rfl) (Nat.le_of_ble_eq_true rfl) dX11_needsWord_10 rfl (fun v h9 hq => ?_)
    obtain ⟨r8, rfl, hw⟩ := hq
    refine G.cse (cs' := (0, 0)) rfl ?_
    show GZ _ _ _ _ _ _ _ 13 _ (.int r8 :: []) _ _
    obtain ⟨c11, hw⟩ := wp_ck hw
    exact G_zreturn rfl dX11_needsWord_13 (g_nb c11) ⟨_, rfl, wp_ret hw⟩
set_option maxHeartbeats 4000000 in
set_option maxRecDepth 100000 in
theorem s_X11_needsBoth {Γ : GX} (hs : SF Γ) {N : Nat} (l0 : Nat) (l1 : Int64) (l3 : Int32) (l4 : Int32) (h : PH) (Q : Int32 → PH → Prop) (hw : wp (f_X11_needsBoth N l0 l1 l3 l4 h) Q) : Spec Γ yX11_needsBoth cX11_needsBoth 5 (some .boolean) (4, 0, 0) [.ref l0, .long l1, .int l3, .int l4] h (q_i Q) := by
  refine Spec.of (by decide) (Nat.le_of_ble_eq_true rfl) [some (.ref l0), some (.long l1), none, some (.int l3), some (.int l4)] rfl ?_
  unfold f_X11_needsBoth at hw
  refine G_aload_n dX11_needsBoth_0 rfl ?_
  refine G_lload_n dX11_needsBoth_1 rfl ?_
  obtain ⟨c3, hw⟩ := wp_ck hw
  refine G_callV (As := [.long l1]) (s_X11_needsWord hs l0 l1 h _ (wp_cl hw)) ca_X11_needsWord w_1679 w_55 (ci := 10) rfl (by decide) w_1677 c3 (Nat.le_of_ble_eq_true rfl) (Nat.le_of_ble_eq_true rfl) rfl (Nat.le_of_ble_eq_true rfl) (Nat.le_of_ble_eq_true rfl) (Nat.le_of_ble_eq_true rfl) dX11_needsBoth_2 rfl (fun v h2 hq => ?_)
  obtain ⟨r1, rfl, hw⟩ := hq
  refine G.cse (cs' := (0, 0)) rfl ?_
  show GZ _ _ _ _ _ _ _ 5 _ (.int r1 :: []) _ _
  have hw := wp_if hw
  refine G_if_eq (tgt := 22) dX11_needsBoth_5 rfl (fun c4 => ?_) (fun c4 => ?_)
  · have hw := hw.1 c4
    refine G_iconst (v := (0 : Int32)) dX11_needsBoth_22 (by decide) ?_
    exact G_zreturn rfl dX11_needsBoth_23 rfl ⟨_, rfl, wp_ret hw⟩
  · have hw := hw.2 c4
    refine G_aload_n dX11_needsBoth_8 rfl ?_
    refine G_iload_n dX11_needsBoth_9 rfl ?_
    refine G_iload dX11_needsBoth_10 rfl ?_
    obtain ⟨c7, hw⟩ := wp_ck hw
    refine G_callV (As := [.int l3, .int l4]) (s_X11_needsNumber hs l0 l3 l4 h2 _ (wp_cl hw)) ca_X11_needsNumber w_1683 w_56 (ci := 10) rfl (by decide) w_1681 c7 (Nat.le_of_ble_eq_true rfl) (Nat.le_of_ble_eq_true rfl) rfl (Nat.le_of_ble_eq_true rfl) (Nat.le_of_ble_eq_true rfl) (Nat.le_of_ble_eq_true rfl) dX11_needsBoth_12 rfl (fun v h6 hq => ?_)
    obtain ⟨r5, rfl, hw⟩ := hq
    refine G.cse (cs' := (0, 0)) rfl ?_
    show GZ _ _ _ _ _ _ _ 15 _ (.int r5 :: []) _ _
    have hw := wp_if hw
    refine G_if_eq (tgt := 22) dX11_needsBoth_15 rfl (fun c8 => ?_) (fun c8 => ?_)
    · have hw := hw.1 c8
      refine G_iconst (v := (0 : Int32)) dX11_needsBoth_22 (by decide) ?_
      exact G_zreturn rfl dX11_needsBoth_23 rfl ⟨_, rfl, wp_ret hw⟩
    · have hw := hw.2 c8
      refine G_iconst (v := (1 : Int32)) dX11_needsBoth_18 (by decide) ?_
      refine G_goto (tgt := 23) dX11_needsBoth_19 rfl ?_
      exact G_zreturn rfl dX11_needsBoth_23 rfl ⟨_, rfl, wp_ret hw⟩
set_option maxHeartbeats 4000000 in
set_option maxRecDepth 100000 in
theorem s_X11_closes {Γ : GX} (hs : SF Γ) {N : Nat} (l0 : Nat) (h : PH) (Q : Int32 → PH → Prop) (hw : wp (f_X11_closes N l0 h) Q) : Spec Γ yX11_closes cX11_closes 1 (some .boolean) (3, 0, 0) [.ref l0] h (q_i Q) := by
  refine Spec.of (by decide) (Nat.le_of_ble_eq_true rfl) [some (.ref l0)] rfl ?_
  unfold f_X11_closes at hw
  refine G_aload_n dX11_closes_0 rfl ?_
  refine G_bipush (v := (59 : Int32)) dX11_closes_1 (by decide) ?_
  obtain ⟨c3, hw⟩ := wp_ck hw
  refine G_callV (As := [.int (59 : Int32)]) (s_X11_isSign hs l0 (59 : Int32) h _ (wp_cl hw)) ca_X11_isSign w_1698 w_59 (ci := 10) rfl (by decide) w_1696 c3 (Nat.le_of_ble_eq_true rfl) (Nat.le_of_ble_eq_true rfl) rfl (Nat.le_of_ble_eq_true rfl) (Nat.le_of_ble_eq_true rfl) (Nat.le_of_ble_eq_true rfl) dX11_closes_3 rfl (fun v h2 hq => ?_)
  obtain ⟨r1, rfl, hw⟩ := hq
  refine G.cse (cs' := (0, 0)) rfl ?_
  show GZ _ _ _ _ _ _ _ 6 _ (.int r1 :: []) _ _
  have hw := wp_if hw
  refine G_if_ne (tgt := 15) dX11_closes_6 rfl (fun c4 => ?_) (fun c4 => ?_)
  · have hw := hw.2 c4
    refine G_aload_n dX11_closes_15 rfl ?_
    obtain ⟨c7, hw⟩ := wp_ck hw
    refine G_callV (As := []) (s_X11_nextToken hs l0 h2 _ (wp_cl hw)) ca_X11_nextToken w_1616 w_46 (ci := 10) rfl (by decide) w_1614 c7 (Nat.le_of_ble_eq_true rfl) (Nat.le_of_ble_eq_true rfl) rfl (Nat.le_of_ble_eq_true rfl) (Nat.le_of_ble_eq_true rfl) (Nat.le_of_ble_eq_true rfl) dX11_closes_16 rfl (fun v h6 hq => ?_)
    obtain ⟨rfl, hw⟩ := hq
    refine G.cse (cs' := (0, 0)) rfl ?_
    show GZ _ _ _ _ _ _ _ 19 _ [] _ _
    refine G_iconst (v := (1 : Int32)) dX11_closes_19 (by decide) ?_
    exact G_zreturn rfl dX11_closes_20 rfl ⟨_, rfl, wp_ret hw⟩
  · have hw := hw.1 c4
    refine G_aload_n dX11_closes_9 rfl ?_
    refine G_iconst (v := (1 : Int32)) dX11_closes_10 (by decide) ?_
    obtain ⟨c10, hw⟩ := wp_ck hw
    refine G_callV (As := [.int (1 : Int32)]) (s_X11_fails hs l0 (1 : Int32) h2 _ (wp_cl hw)) ca_X11_fails w_1635 w_50 (ci := 10) rfl (by decide) w_1633 c10 (Nat.le_of_ble_eq_true rfl) (Nat.le_of_ble_eq_true rfl) rfl (Nat.le_of_ble_eq_true rfl) (Nat.le_of_ble_eq_true rfl) (Nat.le_of_ble_eq_true rfl) dX11_closes_11 rfl (fun v h9 hq => ?_)
    obtain ⟨r8, rfl, hw⟩ := hq
    refine G.cse (cs' := (0, 0)) rfl ?_
    show GZ _ _ _ _ _ _ _ 14 _ (.int r8 :: []) _ _
    obtain ⟨c11, hw⟩ := wp_ck hw
    exact G_zreturn rfl dX11_closes_14 (g_nb c11) ⟨_, rfl, wp_ret hw⟩
set_option maxHeartbeats 4000000 in
set_option maxRecDepth 100000 in
theorem f_X11_needsNew_15_bok {Γ : GX} (hs : SF Γ) {N : Nat} {K_15 : Nat → Int32 → PH → Option (Int32 × PH)} (hK_15 : ∀ (l0 : Nat) (l1 : Int32) (h : PH) (Q : Int32 → PH → Prop), wp (K_15 l0 l1 h) Q → G Γ yX11_needsNew cX11_needsNew 2 (some .boolean) (3, 0, 0) 15 [some (.ref l0), some (.int l1)] [] h (0, 0) (q_i Q)) (l0 : Nat) (l1 : Int32) (h : PH) (Q : Int32 → PH → Prop) (hw : wp (f_X11_needsNew_15_b N K_15 l0 l1 h) Q) : G Γ yX11_needsNew cX11_needsNew 2 (some .boolean) (3, 0, 0) 15 [some (.ref l0), some (.int l1)] [] h (0, 0) (q_i Q) := by
  unfold f_X11_needsNew_15_b at hw
  refine G_iload_n dX11_needsNew_15 rfl ?_
  refine G_iconst (v := (4 : Int32)) dX11_needsNew_16 (by decide) ?_
  have hw := wp_if hw
  refine G_icmp_gt (tgt := 41) dX11_needsNew_17 rfl (fun c1 => ?_) (fun c1 => ?_)
  · have hw := hw.1 c1
    refine G_aload_n dX11_needsNew_41 rfl ?_
    refine G_aload_n dX11_needsNew_42 rfl ?_
    obtain ⟨c2, hw⟩ := wp_ck hw
    refine G_getJ fl_X11_word w_1400 dX11_needsNew_43 c2 ?_
    refine G_putJ fl_X11_fresh w_1431 dX11_needsNew_46 c2 ?_
    refine G.nmh fun h3 eh3 => ?_
    have hw := wp_bd hw h3 eh3
    refine G_aload_n dX11_needsNew_49 rfl ?_
    obtain ⟨c6, hw⟩ := wp_ck hw
    refine G_callV (As := []) (s_X11_nextToken hs l0 h3 _ (wp_cl hw)) ca_X11_nextToken w_1616 w_46 (ci := 10) rfl (by decide) w_1614 c6 (Nat.le_of_ble_eq_true rfl) (Nat.le_of_ble_eq_true rfl) rfl (Nat.le_of_ble_eq_true rfl) (Nat.le_of_ble_eq_true rfl) (Nat.le_of_ble_eq_true rfl) dX11_needsNew_50 rfl (fun v h5 hq => ?_)
    obtain ⟨rfl, hw⟩ := hq
    refine G.cse (cs' := (0, 0)) rfl ?_
    show GZ _ _ _ _ _ _ _ 53 _ [] _ _
    refine G_iconst (v := (1 : Int32)) dX11_needsNew_53 (by decide) ?_
    exact G_zreturn rfl dX11_needsNew_54 rfl ⟨_, rfl, wp_ret hw⟩
  · have hw := hw.2 c1
    refine G_aload_n dX11_needsNew_20 rfl ?_
    refine G_iconst (v := (1 : Int32)) dX11_needsNew_21 (by decide) ?_
    refine G_iload_n dX11_needsNew_22 rfl ?_
    obtain ⟨c9, hw⟩ := wp_ck hw
    refine G_callV (As := [.int (1 : Int32), .int l1]) (s_X11_named hs l0 (1 : Int32) l1 h _ (wp_cl hw)) ca_X11_named w_1668 w_53 (ci := 10) rfl (by decide) w_1666 c9 (Nat.le_of_ble_eq_true rfl) (Nat.le_of_ble_eq_true rfl) rfl (Nat.le_of_ble_eq_true rfl) (Nat.le_of_ble_eq_true rfl) (Nat.le_of_ble_eq_true rfl) dX11_needsNew_23 rfl (fun v h8 hq => ?_)
    obtain ⟨r7, rfl, hw⟩ := hq
    refine G.cse (cs' := (0, 0)) rfl ?_
    show GZ _ _ _ _ _ _ _ 26 _ (.int r7 :: []) _ _
    have hw := wp_if hw
    refine G_if_lt (tgt := 35) dX11_needsNew_26 rfl (fun c10 => ?_) (fun c10 => ?_)
    · have hw := hw.1 c10
      obtain ⟨v11, ev11⟩ : ∃ z : Int32, z = l1 + (1 : Int32) := ⟨_, rfl⟩
      have hw := wp_bd hw v11 ev11
      refine G_iinc (v := v11) (lv' := [some (.ref l0), some (.int v11)]) dX11_needsNew_35 rfl (by rw [ev11]; rfl) (Nat.le_of_ble_eq_true rfl) rfl ?_
      refine G_goto (tgt := 15) dX11_needsNew_38 rfl ?_
      refine G.less [some (.ref l0), some (.int v11)] ⟨rfl, ⟨rfl, trivial⟩⟩ ?_
      exact hK_15 _ _ h8 Q hw
    · have hw := hw.2 c10
      refine G_aload_n dX11_needsNew_29 rfl ?_
      refine G_iconst (v := (3 : Int32)) dX11_needsNew_30 (by decide) ?_
      obtain ⟨c14, hw⟩ := wp_ck hw
      refine G_callV (As := [.int (3 : Int32)]) (s_X11_fails hs l0 (3 : Int32) h8 _ (wp_cl hw)) ca_X11_fails w_1635 w_50 (ci := 10) rfl (by decide) w_1633 c14 (Nat.le_of_ble_eq_true rfl) (Nat.le_of_ble_eq_true rfl) rfl (Nat.le_of_ble_eq_true rfl) (Nat.le_of_ble_eq_true rfl) (Nat.le_of_ble_eq_true rfl) dX11_needsNew_31 rfl (fun v h13 hq => ?_)
      obtain ⟨r12, rfl, hw⟩ := hq
      refine G.cse (cs' := (0, 0)) rfl ?_
      show GZ _ _ _ _ _ _ _ 34 _ (.int r12 :: []) _ _
      obtain ⟨c15, hw⟩ := wp_ck hw
      exact G_zreturn rfl dX11_needsNew_34 (g_nb c15) ⟨_, rfl, wp_ret hw⟩
theorem f_X11_needsNew_15_ok {Γ : GX} (hs : SF Γ) {N : Nat} : ∀ (n : Nat) (l0 : Nat) (l1 : Int32) (h : PH) (Q : Int32 → PH → Prop), wp (f_X11_needsNew_15 N n l0 l1 h) Q → G Γ yX11_needsNew cX11_needsNew 2 (some .boolean) (3, 0, 0) 15 [some (.ref l0), some (.int l1)] [] h (0, 0) (q_i Q)
  | 0, _, _, _, Q, hw => (wp_no hw).elim
  | n + 1, l0, l1, h, Q, hw => f_X11_needsNew_15_bok (N := N) hs (f_X11_needsNew_15_ok (N := N) hs n) l0 l1 h Q hw
set_option maxHeartbeats 4000000 in
set_option maxRecDepth 100000 in
theorem s_X11_needsNew {Γ : GX} (hs : SF Γ) {N : Nat} (l0 : Nat) (h : PH) (Q : Int32 → PH → Prop) (hw : wp (f_X11_needsNew N l0 h) Q) : Spec Γ yX11_needsNew cX11_needsNew 2 (some .boolean) (3, 0, 0) [.ref l0] h (q_i Q) := by
  refine Spec.of (by decide) (Nat.le_of_ble_eq_true rfl) [some (.ref l0), none] rfl ?_
  unfold f_X11_needsNew at hw
  refine G_aload_n dX11_needsNew_0 rfl ?_
  obtain ⟨c3, hw⟩ := wp_ck hw
  refine G_callV (As := []) (s_X11_isKept hs l0 h _ (wp_cl hw)) ca_X11_isKept w_1643 w_52 (ci := 10) rfl (by decide) w_1641 c3 (Nat.le_of_ble_eq_true rfl) (Nat.le_of_ble_eq_true rfl) rfl (Nat.le_of_ble_eq_true rfl) (Nat.le_of_ble_eq_true rfl) (Nat.le_of_ble_eq_true rfl) dX11_needsNew_1 rfl (fun v h2 hq => ?_)
  obtain ⟨r1, rfl, hw⟩ := hq
  refine G.cse (cs' := (0, 0)) rfl ?_
  show GZ _ _ _ _ _ _ _ 4 _ (.int r1 :: []) _ _
  have hw := wp_if hw
  refine G_if_eq (tgt := 13) dX11_needsNew_4 rfl (fun c4 => ?_) (fun c4 => ?_)
  · have hw := hw.1 c4
    refine G_iconst (v := (0 : Int32)) dX11_needsNew_13 (by decide) ?_
    refine G_istore_n (lv' := [some (.ref l0), some (.int (0 : Int32))]) dX11_needsNew_14 (Nat.le_of_ble_eq_true rfl) rfl ?_
    refine G.less [some (.ref l0), some (.int (0 : Int32))] ⟨rfl, ⟨rfl, trivial⟩⟩ ?_
    exact f_X11_needsNew_15_ok hs N _ _ h2 Q hw
  · have hw := hw.2 c4
    refine G_aload_n dX11_needsNew_7 rfl ?_
    refine G_iconst (v := (1 : Int32)) dX11_needsNew_8 (by decide) ?_
    obtain ⟨c7, hw⟩ := wp_ck hw
    refine G_callV (As := [.int (1 : Int32)]) (s_X11_fails hs l0 (1 : Int32) h2 _ (wp_cl hw)) ca_X11_fails w_1635 w_50 (ci := 10) rfl (by decide) w_1633 c7 (Nat.le_of_ble_eq_true rfl) (Nat.le_of_ble_eq_true rfl) rfl (Nat.le_of_ble_eq_true rfl) (Nat.le_of_ble_eq_true rfl) (Nat.le_of_ble_eq_true rfl) dX11_needsNew_9 rfl (fun v h6 hq => ?_)
    obtain ⟨r5, rfl, hw⟩ := hq
    refine G.cse (cs' := (0, 0)) rfl ?_
    show GZ _ _ _ _ _ _ _ 12 _ (.int r5 :: []) _ _
    obtain ⟨c8, hw⟩ := wp_ck hw
    exact G_zreturn rfl dX11_needsNew_12 (g_nb c8) ⟨_, rfl, wp_ret hw⟩
set_option maxHeartbeats 4000000 in
set_option maxRecDepth 100000 in
theorem s_X11_keepsName {Γ : GX} (hs : SF Γ) {N : Nat} (l0 : Nat) (l1 : Int32) (h : PH) (Q : Unit → PH → Prop) (hw : wp (f_X11_keepsName N l0 l1 h) Q) : Spec Γ yX11_keepsName cX11_keepsName 2 none (2, 0, 0) [.ref l0, .int l1] h (q_u Q) := by
  refine Spec.of (by decide) (Nat.le_of_ble_eq_true rfl) [some (.ref l0), some (.int l1)] rfl ?_
  unfold f_X11_keepsName at hw
  refine G_aload_n dX11_keepsName_0 rfl ?_
  obtain ⟨c1, hw⟩ := wp_ck hw
  refine G_getR fl_X11_names w_1404 dX11_keepsName_1 c1 ?_
  obtain ⟨a2, ea2, hw⟩ := wp_rq hw
  refine G.sure ea2 ?_
  refine G_bipush (v := (22 : Int32)) dX11_keepsName_4 (by decide) ?_
  refine G_iload_n dX11_keepsName_6 rfl ?_
  refine G_callS (As := [.int l1]) (s_X11_firstName hs l1 h _ (wp_cl hw)) ca_X11_firstName w_1671 w_1670 (Nat.le_of_ble_eq_true rfl) (Nat.le_of_ble_eq_true rfl) rfl (Nat.le_of_ble_eq_true rfl) (Nat.le_of_ble_eq_true rfl) (Nat.le_of_ble_eq_true rfl) dX11_keepsName_7 rfl (fun v h4 hq => ?_)
  obtain ⟨r3, rfl, hw⟩ := hq
  refine G.cse (cs' := (0, 0)) rfl ?_
  show GZ _ _ _ _ _ _ _ 10 _ (.int r3 :: [.int (22 : Int32), .ref a2]) _ _
  refine G_iadd dX11_keepsName_10 ?_
  refine G_aload_n dX11_keepsName_11 rfl ?_
  obtain ⟨c5, hw⟩ := wp_ck hw
  refine G_getR fl_X11_valley w_1403 dX11_keepsName_12 c5 ?_
  obtain ⟨a6, ea6, hw⟩ := wp_rq hw
  refine G.sure ea6 ?_
  refine G_bipush (v := (6 : Int32)) dX11_keepsName_15 (by decide) ?_
  refine G_iload_n dX11_keepsName_17 rfl ?_
  refine G_iadd dX11_keepsName_18 ?_
  obtain ⟨c7, hw⟩ := wp_ck hw
  obtain ⟨c8, hw⟩ := wp_ck hw
  refine G_iaload dX11_keepsName_19 c7 c8 ?_
  refine G_iadd dX11_keepsName_20 ?_
  refine G_aload_n dX11_keepsName_21 rfl ?_
  refine G_getJ fl_X11_fresh w_1431 dX11_keepsName_22 c5 ?_
  obtain ⟨c9, hw⟩ := wp_ck hw
  obtain ⟨c10, hw⟩ := wp_ck hw
  refine G_lastore dX11_keepsName_25 c9 c10 ?_
  refine G.nmh fun h11 eh11 => ?_
  have hw := wp_bd hw h11 eh11
  refine G_aload_n dX11_keepsName_26 rfl ?_
  obtain ⟨c12, hw⟩ := wp_ck hw
  refine G_getR fl_X11_valley w_1403 dX11_keepsName_27 c12 ?_
  obtain ⟨a13, ea13, hw⟩ := wp_rq hw
  refine G.sure ea13 ?_
  refine G_bipush (v := (6 : Int32)) dX11_keepsName_30 (by decide) ?_
  refine G_iload_n dX11_keepsName_32 rfl ?_
  refine G_iadd dX11_keepsName_33 ?_
  refine G.topi fun v14 ev14 => ?_
  have hw := wp_bd hw v14 ev14
  refine G_dup2 dX11_keepsName_34 rfl rfl ?_
  obtain ⟨c15, hw⟩ := wp_ck hw
  obtain ⟨c16, hw⟩ := wp_ck hw
  refine G_iaload dX11_keepsName_35 c15 c16 ?_
  refine G_iconst (v := (1 : Int32)) dX11_keepsName_36 (by decide) ?_
  refine G_iadd dX11_keepsName_37 ?_
  refine G_iastore dX11_keepsName_38 c15 c16 ?_
  refine G.nmh fun h17 eh17 => ?_
  have hw := wp_bd hw h17 eh17
  exact G_vreturn rfl dX11_keepsName_39 ⟨rfl, wp_ret hw⟩
set_option maxHeartbeats 4000000 in
set_option maxRecDepth 100000 in
theorem s_X11_needsNamed {Γ : GX} (hs : SF Γ) {N : Nat} (l0 : Nat) (l1 : Int32) (l2 : Int32) (h : PH) (Q : Int32 → PH → Prop) (hw : wp (f_X11_needsNamed N l0 l1 l2 h) Q) : Spec Γ yX11_needsNamed cX11_needsNamed 3 (some .boolean) (3, 0, 0) [.ref l0, .int l1, .int l2] h (q_i Q) := by
  refine Spec.of (by decide) (Nat.le_of_ble_eq_true rfl) [some (.ref l0), some (.int l1), some (.int l2)] rfl ?_
  unfold f_X11_needsNamed at hw
  refine G_aload_n dX11_needsNamed_0 rfl ?_
  obtain ⟨c3, hw⟩ := wp_ck hw
  refine G_callV (As := []) (s_X11_isKept hs l0 h _ (wp_cl hw)) ca_X11_isKept w_1643 w_52 (ci := 10) rfl (by decide) w_1641 c3 (Nat.le_of_ble_eq_true rfl) (Nat.le_of_ble_eq_true rfl) rfl (Nat.le_of_ble_eq_true rfl) (Nat.le_of_ble_eq_true rfl) (Nat.le_of_ble_eq_true rfl) dX11_needsNamed_1 rfl (fun v h2 hq => ?_)
  obtain ⟨r1, rfl, hw⟩ := hq
  refine G.cse (cs' := (0, 0)) rfl ?_
  show GZ _ _ _ _ _ _ _ 4 _ (.int r1 :: []) _ _
  have hw := wp_if hw
  refine G_if_eq (tgt := 13) dX11_needsNamed_4 rfl (fun c4 => ?_) (fun c4 => ?_)
  · have hw := hw.1 c4
    refine G_aload_n dX11_needsNamed_13 rfl ?_
    refine G_aload_n dX11_needsNamed_14 rfl ?_
    refine G_iload_n dX11_needsNamed_15 rfl ?_
    refine G_iload_n dX11_needsNamed_16 rfl ?_
    obtain ⟨c7, hw⟩ := wp_ck hw
    refine G_callV (As := [.int l1, .int l2]) (s_X11_named hs l0 l1 l2 h2 _ (wp_cl hw)) ca_X11_named w_1668 w_53 (ci := 10) rfl (by decide) w_1666 c7 (Nat.le_of_ble_eq_true rfl) (Nat.le_of_ble_eq_true rfl) rfl (Nat.le_of_ble_eq_true rfl) (Nat.le_of_ble_eq_true rfl) (Nat.le_of_ble_eq_true rfl) dX11_needsNamed_17 rfl (fun v h6 hq => ?_)
    obtain ⟨r5, rfl, hw⟩ := hq
    refine G.cse (cs' := (0, 0)) rfl ?_
    show GZ _ _ _ _ _ _ _ 20 _ (.int r5 :: [.ref l0]) _ _
    obtain ⟨c8, hw⟩ := wp_ck hw
    refine G_putI fl_X11_given w_1430 dX11_needsNamed_20 c8 ?_
    refine G.nmh fun h9 eh9 => ?_
    have hw := wp_bd hw h9 eh9
    refine G_aload_n dX11_needsNamed_23 rfl ?_
    obtain ⟨c10, hw⟩ := wp_ck hw
    refine G_getI fl_X11_given w_1430 dX11_needsNamed_24 c10 ?_
    have hw := wp_if hw
    refine G_if_ge (tgt := 38) dX11_needsNamed_27 rfl (fun c11 => ?_) (fun c11 => ?_)
    · have hw := hw.1 c11
      refine G_iconst (v := (1 : Int32)) dX11_needsNamed_38 (by decide) ?_
      refine G_goto (tgt := 43) dX11_needsNamed_39 rfl ?_
      exact G_zreturn rfl dX11_needsNamed_43 rfl ⟨_, rfl, wp_ret hw⟩
    · have hw := hw.2 c11
      refine G_aload_n dX11_needsNamed_30 rfl ?_
      refine G_iconst (v := (2 : Int32)) dX11_needsNamed_31 (by decide) ?_
      refine G_callV (As := [.int (2 : Int32)]) (s_X11_fails hs l0 (2 : Int32) h9 _ (wp_cl hw)) ca_X11_fails w_1635 w_50 (ci := 10) rfl (by decide) w_1633 c10 (Nat.le_of_ble_eq_true rfl) (Nat.le_of_ble_eq_true rfl) rfl (Nat.le_of_ble_eq_true rfl) (Nat.le_of_ble_eq_true rfl) (Nat.le_of_ble_eq_true rfl) dX11_needsNamed_32 rfl (fun v h13 hq => ?_)
      obtain ⟨r12, rfl, hw⟩ := hq
      refine G.cse (cs' := (0, 0)) rfl ?_
      show GZ _ _ _ _ _ _ _ 35 _ (.int r12 :: []) _ _
      have hw := wp_if hw
      refine G_if_eq (tgt := 42) dX11_needsNamed_35 rfl (fun c14 => ?_) (fun c14 => ?_)
      · have hw := hw.1 c14
        refine G_iconst (v := (0 : Int32)) dX11_needsNamed_42 (by decide) ?_
        exact G_zreturn rfl dX11_needsNamed_43 rfl ⟨_, rfl, wp_ret hw⟩
      · have hw := hw.2 c14
        refine G_iconst (v := (1 : Int32)) dX11_needsNamed_38 (by decide) ?_
        refine G_goto (tgt := 43) dX11_needsNamed_39 rfl ?_
        exact G_zreturn rfl dX11_needsNamed_43 rfl ⟨_, rfl, wp_ret hw⟩
  · have hw := hw.2 c4
    refine G_aload_n dX11_needsNamed_7 rfl ?_
    refine G_iconst (v := (1 : Int32)) dX11_needsNamed_8 (by decide) ?_
    obtain ⟨c17, hw⟩ := wp_ck hw
    refine G_callV (As := [.int (1 : Int32)]) (s_X11_fails hs l0 (1 : Int32) h2 _ (wp_cl hw)) ca_X11_fails w_1635 w_50 (ci := 10) rfl (by decide) w_1633 c17 (Nat.le_of_ble_eq_true rfl) (Nat.le_of_ble_eq_true rfl) rfl (Nat.le_of_ble_eq_true rfl) (Nat.le_of_ble_eq_true rfl) (Nat.le_of_ble_eq_true rfl) dX11_needsNamed_9 rfl (fun v h16 hq => ?_)
    obtain ⟨r15, rfl, hw⟩ := hq
    refine G.cse (cs' := (0, 0)) rfl ?_
    show GZ _ _ _ _ _ _ _ 12 _ (.int r15 :: []) _ _
    obtain ⟨c18, hw⟩ := wp_ck hw
    exact G_zreturn rfl dX11_needsNamed_12 (g_nb c18) ⟨_, rfl, wp_ret hw⟩
set_option maxHeartbeats 4000000 in
set_option maxRecDepth 100000 in
theorem s_X11_readsFuel {Γ : GX} (hs : SF Γ) {N : Nat} (l0 : Nat) (h : PH) (Q : Int32 → PH → Prop) (hw : wp (f_X11_readsFuel N l0 h) Q) : Spec Γ yX11_readsFuel cX11_readsFuel 2 (some .boolean) (5, 0, 0) [.ref l0] h (q_i Q) := by
  refine Spec.of (by decide) (Nat.le_of_ble_eq_true rfl) [some (.ref l0), none] rfl ?_
  unfold f_X11_readsFuel at hw
  refine G_iconst (v := (5 : Int32)) dX11_readsFuel_0 (by decide) ?_
  refine G_aload_n dX11_readsFuel_1 rfl ?_
  obtain ⟨c1, hw⟩ := wp_ck hw
  refine G_getR fl_X11_valley w_1403 dX11_readsFuel_2 c1 ?_
  obtain ⟨a2, ea2, hw⟩ := wp_rq hw
  refine G.sure ea2 ?_
  refine G_bipush (v := (6 : Int32)) dX11_readsFuel_5 (by decide) ?_
  obtain ⟨c3, hw⟩ := wp_ck hw
  obtain ⟨c4, hw⟩ := wp_ck hw
  refine G_ialoadK (k := 6) dX11_readsFuel_7 c3 (by decide) rfl c4 ?_
  refine G_iadd dX11_readsFuel_8 ?_
  refine G.topi fun v5 ev5 => ?_
  have hw := wp_bd hw v5 ev5
  refine G_istore_n (lv' := [some (.ref l0), some (.int v5)]) dX11_readsFuel_9 (Nat.le_of_ble_eq_true rfl) rfl ?_
  refine G_iload_n dX11_readsFuel_10 rfl ?_
  refine G_bipush (v := (10 : Int32)) dX11_readsFuel_11 (by decide) ?_
  have hw := wp_if hw
  refine G_icmp_ne (tgt := 22) dX11_readsFuel_13 rfl (fun c6 => ?_) (fun c6 => ?_)
  · have hw := hw.2 c6
    refine G_aload_n dX11_readsFuel_22 rfl ?_
    refine G_callV (As := []) (s_X11_nextToken hs l0 h _ (wp_cl hw)) ca_X11_nextToken w_1616 w_46 (ci := 10) rfl (by decide) w_1614 c1 (Nat.le_of_ble_eq_true rfl) (Nat.le_of_ble_eq_true rfl) rfl (Nat.le_of_ble_eq_true rfl) (Nat.le_of_ble_eq_true rfl) (Nat.le_of_ble_eq_true rfl) dX11_readsFuel_23 rfl (fun v h8 hq => ?_)
    obtain ⟨rfl, hw⟩ := hq
    refine G.cse (cs' := (0, 0)) rfl ?_
    show GZ _ _ _ _ _ _ _ 26 _ [] _ _
    refine G_aload_n dX11_readsFuel_26 rfl ?_
    obtain ⟨c11, hw⟩ := wp_ck hw
    refine G_callV (As := []) (s_X11_needsNew hs l0 h8 _ (wp_cl hw)) ca_X11_needsNew w_1639 w_51 (ci := 10) rfl (by decide) w_1637 c11 (Nat.le_of_ble_eq_true rfl) (Nat.le_of_ble_eq_true rfl) rfl (Nat.le_of_ble_eq_true rfl) (Nat.le_of_ble_eq_true rfl) (Nat.le_of_ble_eq_true rfl) dX11_readsFuel_27 rfl (fun v h10 hq => ?_)
    obtain ⟨r9, rfl, hw⟩ := hq
    refine G.cse (cs' := (0, 0)) rfl ?_
    show GZ _ _ _ _ _ _ _ 30 _ (.int r9 :: []) _ _
    have hw := wp_if hw
    refine G_if_eq (tgt := 46) dX11_readsFuel_30 rfl (fun c12 => ?_) (fun c12 => ?_)
    · have hw := hw.1 c12
      refine G_iconst (v := (0 : Int32)) dX11_readsFuel_46 (by decide) ?_
      exact G_zreturn rfl dX11_readsFuel_47 rfl ⟨_, rfl, wp_ret hw⟩
    · have hw := hw.2 c12
      refine G_aload_n dX11_readsFuel_33 rfl ?_
      refine G_ldc2 (v := (79958 : Int64)) dX11_readsFuel_34 w_1645 ?_
      refine G_iconst (v := (0 : Int32)) dX11_readsFuel_37 (by decide) ?_
      refine G_bipush (v := (99 : Int32)) dX11_readsFuel_38 (by decide) ?_
      obtain ⟨c15, hw⟩ := wp_ck hw
      refine G_callV (As := [.long (79958 : Int64), .int (0 : Int32), .int (99 : Int32)]) (s_X11_needsBoth hs l0 (79958 : Int64) (0 : Int32) (99 : Int32) h10 _ (wp_cl hw)) ca_X11_needsBoth w_1675 w_54 (ci := 10) rfl (by decide) w_1673 c15 (Nat.le_of_ble_eq_true rfl) (Nat.le_of_ble_eq_true rfl) rfl (Nat.le_of_ble_eq_true rfl) (Nat.le_of_ble_eq_true rfl) (Nat.le_of_ble_eq_true rfl) dX11_readsFuel_40 rfl (fun v h14 hq => ?_)
      obtain ⟨r13, rfl, hw⟩ := hq
      refine G.cse (cs' := (0, 0)) rfl ?_
      show GZ _ _ _ _ _ _ _ 43 _ (.int r13 :: []) _ _
      have hw := wp_if hw
      refine G_if_ne (tgt := 48) dX11_readsFuel_43 rfl (fun c16 => ?_) (fun c16 => ?_)
      · have hw := hw.2 c16
        refine G_aload_n dX11_readsFuel_48 rfl ?_
        obtain ⟨c17, hw⟩ := wp_ck hw
        refine G_getR fl_X11_fuelDark w_1405 dX11_readsFuel_49 c17 ?_
        obtain ⟨a18, ea18, hw⟩ := wp_rq hw
        refine G.sure ea18 ?_
        refine G_iload_n dX11_readsFuel_52 rfl ?_
        refine G_aload_n dX11_readsFuel_53 rfl ?_
        refine G_getI fl_X11_given w_1430 dX11_readsFuel_54 c17 ?_
        obtain ⟨c19, hw⟩ := wp_ck hw
        obtain ⟨c20, hw⟩ := wp_ck hw
        refine G_iastore dX11_readsFuel_57 c19 c20 ?_
        refine G.nmh fun h21 eh21 => ?_
        have hw := wp_bd hw h21 eh21
        refine G_aload_n dX11_readsFuel_58 rfl ?_
        refine G_ldc2 (v := (10553888 : Int64)) dX11_readsFuel_59 w_1646 ?_
        refine G_iconst (v := (0 : Int32)) dX11_readsFuel_62 (by decide) ?_
        refine G_bipush (v := (99 : Int32)) dX11_readsFuel_63 (by decide) ?_
        obtain ⟨c24, hw⟩ := wp_ck hw
        refine G_callV (As := [.long (10553888 : Int64), .int (0 : Int32), .int (99 : Int32)]) (s_X11_needsBoth hs l0 (10553888 : Int64) (0 : Int32) (99 : Int32) h21 _ (wp_cl hw)) ca_X11_needsBoth w_1675 w_54 (ci := 10) rfl (by decide) w_1673 c24 (Nat.le_of_ble_eq_true rfl) (Nat.le_of_ble_eq_true rfl) rfl (Nat.le_of_ble_eq_true rfl) (Nat.le_of_ble_eq_true rfl) (Nat.le_of_ble_eq_true rfl) dX11_readsFuel_65 rfl (fun v h23 hq => ?_)
        obtain ⟨r22, rfl, hw⟩ := hq
        refine G.cse (cs' := (0, 0)) rfl ?_
        show GZ _ _ _ _ _ _ _ 68 _ (.int r22 :: []) _ _
        have hw := wp_if hw
        refine G_if_ne (tgt := 73) dX11_readsFuel_68 rfl (fun c25 => ?_) (fun c25 => ?_)
        · have hw := hw.2 c25
          refine G_aload_n dX11_readsFuel_73 rfl ?_
          obtain ⟨c26, hw⟩ := wp_ck hw
          refine G_getR fl_X11_fuelSweet w_1406 dX11_readsFuel_74 c26 ?_
          obtain ⟨a27, ea27, hw⟩ := wp_rq hw
          refine G.sure ea27 ?_
          refine G_iload_n dX11_readsFuel_77 rfl ?_
          refine G_aload_n dX11_readsFuel_78 rfl ?_
          refine G_getI fl_X11_given w_1430 dX11_readsFuel_79 c26 ?_
          obtain ⟨c28, hw⟩ := wp_ck hw
          obtain ⟨c29, hw⟩ := wp_ck hw
          refine G_iastore dX11_readsFuel_82 c28 c29 ?_
          refine G.nmh fun h30 eh30 => ?_
          have hw := wp_bd hw h30 eh30
          refine G_aload_n dX11_readsFuel_83 rfl ?_
          refine G_ldc2 (v := (1489744 : Int64)) dX11_readsFuel_84 w_1647 ?_
          refine G_iconst (v := (1 : Int32)) dX11_readsFuel_87 (by decide) ?_
          refine G_bipush (v := (9 : Int32)) dX11_readsFuel_88 (by decide) ?_
          obtain ⟨c33, hw⟩ := wp_ck hw
          refine G_callV (As := [.long (1489744 : Int64), .int (1 : Int32), .int (9 : Int32)]) (s_X11_needsBoth hs l0 (1489744 : Int64) (1 : Int32) (9 : Int32) h30 _ (wp_cl hw)) ca_X11_needsBoth w_1675 w_54 (ci := 10) rfl (by decide) w_1673 c33 (Nat.le_of_ble_eq_true rfl) (Nat.le_of_ble_eq_true rfl) rfl (Nat.le_of_ble_eq_true rfl) (Nat.le_of_ble_eq_true rfl) (Nat.le_of_ble_eq_true rfl) dX11_readsFuel_90 rfl (fun v h32 hq => ?_)
          obtain ⟨r31, rfl, hw⟩ := hq
          refine G.cse (cs' := (0, 0)) rfl ?_
          show GZ _ _ _ _ _ _ _ 93 _ (.int r31 :: []) _ _
          have hw := wp_if hw
          refine G_if_ne (tgt := 98) dX11_readsFuel_93 rfl (fun c34 => ?_) (fun c34 => ?_)
          · have hw := hw.2 c34
            refine G_aload_n dX11_readsFuel_98 rfl ?_
            obtain ⟨c35, hw⟩ := wp_ck hw
            refine G_getR fl_X11_fuelLong w_1407 dX11_readsFuel_99 c35 ?_
            obtain ⟨a36, ea36, hw⟩ := wp_rq hw
            refine G.sure ea36 ?_
            refine G_iload_n dX11_readsFuel_102 rfl ?_
            refine G_aload_n dX11_readsFuel_103 rfl ?_
            refine G_getI fl_X11_given w_1430 dX11_readsFuel_104 c35 ?_
            obtain ⟨c37, hw⟩ := wp_ck hw
            obtain ⟨c38, hw⟩ := wp_ck hw
            refine G_iastore dX11_readsFuel_107 c37 c38 ?_
            refine G.nmh fun h39 eh39 => ?_
            have hw := wp_bd hw h39 eh39
            refine G_aload_n dX11_readsFuel_108 rfl ?_
            refine G_iconst (v := (0 : Int32)) dX11_readsFuel_109 (by decide) ?_
            obtain ⟨c42, hw⟩ := wp_ck hw
            refine G_callV (As := [.int (0 : Int32)]) (s_X11_keepsName hs l0 (0 : Int32) h39 _ (wp_cl hw)) ca_X11_keepsName w_1690 w_57 (ci := 10) rfl (by decide) w_1688 c42 (Nat.le_of_ble_eq_true rfl) (Nat.le_of_ble_eq_true rfl) rfl (Nat.le_of_ble_eq_true rfl) (Nat.le_of_ble_eq_true rfl) (Nat.le_of_ble_eq_true rfl) dX11_readsFuel_110 rfl (fun v h41 hq => ?_)
            obtain ⟨rfl, hw⟩ := hq
            refine G.cse (cs' := (0, 0)) rfl ?_
            show GZ _ _ _ _ _ _ _ 113 _ [] _ _
            refine G_aload_n dX11_readsFuel_113 rfl ?_
            obtain ⟨c45, hw⟩ := wp_ck hw
            refine G_callV (As := []) (s_X11_closes hs l0 h41 _ (wp_cl hw)) ca_X11_closes w_1694 w_58 (ci := 10) rfl (by decide) w_1692 c45 (Nat.le_of_ble_eq_true rfl) (Nat.le_of_ble_eq_true rfl) rfl (Nat.le_of_ble_eq_true rfl) (Nat.le_of_ble_eq_true rfl) (Nat.le_of_ble_eq_true rfl) dX11_readsFuel_114 rfl (fun v h44 hq => ?_)
            obtain ⟨r43, rfl, hw⟩ := hq
            refine G.cse (cs' := (0, 0)) rfl ?_
            show GZ _ _ _ _ _ _ _ 117 _ (.int r43 :: []) _ _
            obtain ⟨c46, hw⟩ := wp_ck hw
            exact G_zreturn rfl dX11_readsFuel_117 (g_nb c46) ⟨_, rfl, wp_ret hw⟩
          · have hw := hw.1 c34
            refine G_iconst (v := (0 : Int32)) dX11_readsFuel_96 (by decide) ?_
            exact G_zreturn rfl dX11_readsFuel_97 rfl ⟨_, rfl, wp_ret hw⟩
        · have hw := hw.1 c25
          refine G_iconst (v := (0 : Int32)) dX11_readsFuel_71 (by decide) ?_
          exact G_zreturn rfl dX11_readsFuel_72 rfl ⟨_, rfl, wp_ret hw⟩
      · have hw := hw.1 c16
        refine G_iconst (v := (0 : Int32)) dX11_readsFuel_46 (by decide) ?_
        exact G_zreturn rfl dX11_readsFuel_47 rfl ⟨_, rfl, wp_ret hw⟩
  · have hw := hw.1 c6
    refine G_aload_n dX11_readsFuel_16 rfl ?_
    refine G_iconst (v := (5 : Int32)) dX11_readsFuel_17 (by decide) ?_
    refine G_callV (As := [.int (5 : Int32)]) (s_X11_fails hs l0 (5 : Int32) h _ (wp_cl hw)) ca_X11_fails w_1635 w_50 (ci := 10) rfl (by decide) w_1633 c1 (Nat.le_of_ble_eq_true rfl) (Nat.le_of_ble_eq_true rfl) rfl (Nat.le_of_ble_eq_true rfl) (Nat.le_of_ble_eq_true rfl) (Nat.le_of_ble_eq_true rfl) dX11_readsFuel_18 rfl (fun v h48 hq => ?_)
    obtain ⟨r47, rfl, hw⟩ := hq
    refine G.cse (cs' := (0, 0)) rfl ?_
    show GZ _ _ _ _ _ _ _ 21 _ (.int r47 :: []) _ _
    obtain ⟨c49, hw⟩ := wp_ck hw
    exact G_zreturn rfl dX11_readsFuel_21 (g_nb c49) ⟨_, rfl, wp_ret hw⟩
set_option maxHeartbeats 4000000 in
set_option maxRecDepth 100000 in
theorem s_X11_readsFlue {Γ : GX} (hs : SF Γ) {N : Nat} (l0 : Nat) (h : PH) (Q : Int32 → PH → Prop) (hw : wp (f_X11_readsFlue N l0 h) Q) : Spec Γ yX11_readsFlue cX11_readsFlue 1 (some .boolean) (4, 0, 0) [.ref l0] h (q_i Q) := by
  refine Spec.of (by decide) (Nat.le_of_ble_eq_true rfl) [some (.ref l0)] rfl ?_
  unfold f_X11_readsFlue at hw
  refine G_aload_n dX11_readsFlue_0 rfl ?_
  obtain ⟨c1, hw⟩ := wp_ck hw
  refine G_getR fl_X11_valley w_1403 dX11_readsFlue_1 c1 ?_
  obtain ⟨a2, ea2, hw⟩ := wp_rq hw
  refine G.sure ea2 ?_
  refine G_bipush (v := (7 : Int32)) dX11_readsFlue_4 (by decide) ?_
  obtain ⟨c3, hw⟩ := wp_ck hw
  obtain ⟨c4, hw⟩ := wp_ck hw
  refine G_ialoadK (k := 7) dX11_readsFlue_6 c3 (by decide) rfl c4 ?_
  refine G_iconst (v := (3 : Int32)) dX11_readsFlue_7 (by decide) ?_
  have hw := wp_if hw
  refine G_icmp_ne (tgt := 17) dX11_readsFlue_8 rfl (fun c5 => ?_) (fun c5 => ?_)
  · have hw := hw.2 c5
    refine G_aload_n dX11_readsFlue_17 rfl ?_
    refine G_callV (As := []) (s_X11_nextToken hs l0 h _ (wp_cl hw)) ca_X11_nextToken w_1616 w_46 (ci := 10) rfl (by decide) w_1614 c1 (Nat.le_of_ble_eq_true rfl) (Nat.le_of_ble_eq_true rfl) rfl (Nat.le_of_ble_eq_true rfl) (Nat.le_of_ble_eq_true rfl) (Nat.le_of_ble_eq_true rfl) dX11_readsFlue_18 rfl (fun v h7 hq => ?_)
    obtain ⟨rfl, hw⟩ := hq
    refine G.cse (cs' := (0, 0)) rfl ?_
    show GZ _ _ _ _ _ _ _ 21 _ [] _ _
    refine G_aload_n dX11_readsFlue_21 rfl ?_
    obtain ⟨c10, hw⟩ := wp_ck hw
    refine G_callV (As := []) (s_X11_needsNew hs l0 h7 _ (wp_cl hw)) ca_X11_needsNew w_1639 w_51 (ci := 10) rfl (by decide) w_1637 c10 (Nat.le_of_ble_eq_true rfl) (Nat.le_of_ble_eq_true rfl) rfl (Nat.le_of_ble_eq_true rfl) (Nat.le_of_ble_eq_true rfl) (Nat.le_of_ble_eq_true rfl) dX11_readsFlue_22 rfl (fun v h9 hq => ?_)
    obtain ⟨r8, rfl, hw⟩ := hq
    refine G.cse (cs' := (0, 0)) rfl ?_
    show GZ _ _ _ _ _ _ _ 25 _ (.int r8 :: []) _ _
    have hw := wp_if hw
    refine G_if_ne (tgt := 30) dX11_readsFlue_25 rfl (fun c11 => ?_) (fun c11 => ?_)
    · have hw := hw.2 c11
      refine G_aload_n dX11_readsFlue_30 rfl ?_
      refine G_iconst (v := (1 : Int32)) dX11_readsFlue_31 (by decide) ?_
      obtain ⟨c14, hw⟩ := wp_ck hw
      refine G_callV (As := [.int (1 : Int32)]) (s_X11_keepsName hs l0 (1 : Int32) h9 _ (wp_cl hw)) ca_X11_keepsName w_1690 w_57 (ci := 10) rfl (by decide) w_1688 c14 (Nat.le_of_ble_eq_true rfl) (Nat.le_of_ble_eq_true rfl) rfl (Nat.le_of_ble_eq_true rfl) (Nat.le_of_ble_eq_true rfl) (Nat.le_of_ble_eq_true rfl) dX11_readsFlue_32 rfl (fun v h13 hq => ?_)
      obtain ⟨rfl, hw⟩ := hq
      refine G.cse (cs' := (0, 0)) rfl ?_
      show GZ _ _ _ _ _ _ _ 35 _ [] _ _
      refine G_aload_n dX11_readsFlue_35 rfl ?_
      obtain ⟨c17, hw⟩ := wp_ck hw
      refine G_callV (As := []) (s_X11_closes hs l0 h13 _ (wp_cl hw)) ca_X11_closes w_1694 w_58 (ci := 10) rfl (by decide) w_1692 c17 (Nat.le_of_ble_eq_true rfl) (Nat.le_of_ble_eq_true rfl) rfl (Nat.le_of_ble_eq_true rfl) (Nat.le_of_ble_eq_true rfl) (Nat.le_of_ble_eq_true rfl) dX11_readsFlue_36 rfl (fun v h16 hq => ?_)
      obtain ⟨r15, rfl, hw⟩ := hq
      refine G.cse (cs' := (0, 0)) rfl ?_
      show GZ _ _ _ _ _ _ _ 39 _ (.int r15 :: []) _ _
      obtain ⟨c18, hw⟩ := wp_ck hw
      exact G_zreturn rfl dX11_readsFlue_39 (g_nb c18) ⟨_, rfl, wp_ret hw⟩
    · have hw := hw.1 c11
      refine G_iconst (v := (0 : Int32)) dX11_readsFlue_28 (by decide) ?_
      exact G_zreturn rfl dX11_readsFlue_29 rfl ⟨_, rfl, wp_ret hw⟩
  · have hw := hw.1 c5
    refine G_aload_n dX11_readsFlue_11 rfl ?_
    refine G_iconst (v := (5 : Int32)) dX11_readsFlue_12 (by decide) ?_
    refine G_callV (As := [.int (5 : Int32)]) (s_X11_fails hs l0 (5 : Int32) h _ (wp_cl hw)) ca_X11_fails w_1635 w_50 (ci := 10) rfl (by decide) w_1633 c1 (Nat.le_of_ble_eq_true rfl) (Nat.le_of_ble_eq_true rfl) rfl (Nat.le_of_ble_eq_true rfl) (Nat.le_of_ble_eq_true rfl) (Nat.le_of_ble_eq_true rfl) dX11_readsFlue_13 rfl (fun v h20 hq => ?_)
    obtain ⟨r19, rfl, hw⟩ := hq
    refine G.cse (cs' := (0, 0)) rfl ?_
    show GZ _ _ _ _ _ _ _ 16 _ (.int r19 :: []) _ _
    obtain ⟨c21, hw⟩ := wp_ck hw
    exact G_zreturn rfl dX11_readsFlue_16 (g_nb c21) ⟨_, rfl, wp_ret hw⟩
set_option maxHeartbeats 4000000 in
set_option maxRecDepth 100000 in
theorem f_X11_readsHouse_74_bok {Γ : GX} (hs : SF Γ) {N : Nat} {K_74 : Nat → Int32 → Int64 → Int32 → PH → Option (Int32 × PH)} (hK_74 : ∀ (l0 : Nat) (l1 : Int32) (l2 : Int64) (l4 : Int32) (h : PH) (Q : Int32 → PH → Prop), wp (K_74 l0 l1 l2 l4 h) Q → G Γ yX11_readsHouse cX11_readsHouse 5 (some .boolean) (4, 0, 0) 74 [some (.ref l0), some (.int l1), some (.long l2), none, some (.int l4)] [] h (0, 0) (q_i Q)) (l0 : Nat) (l1 : Int32) (l2 : Int64) (l4 : Int32) (h : PH) (Q : Int32 → PH → Prop) (hw : wp (f_X11_readsHouse_74_b N K_74 l0 l1 l2 l4 h) Q) : G Γ yX11_readsHouse cX11_readsHouse 5 (some .boolean) (4, 0, 0) 74 [some (.ref l0), some (.int l1), some (.long l2), none, some (.int l4)] [] h (0, 0) (q_i Q) := by
  unfold f_X11_readsHouse_74_b at hw
  refine G_iload dX11_readsHouse_74 rfl ?_
  refine G_iconst (v := (5 : Int32)) dX11_readsHouse_76 (by decide) ?_
  have hw := wp_if hw
  refine G_icmp_ge (tgt := 98) dX11_readsHouse_77 rfl (fun c1 => ?_) (fun c1 => ?_)
  · have hw := hw.1 c1
    refine G_aload_n dX11_readsHouse_98 rfl ?_
    obtain ⟨c4, hw⟩ := wp_ck hw
    refine G_callV (As := []) (s_X11_nextToken hs l0 h _ (wp_cl hw)) ca_X11_nextToken w_1616 w_46 (ci := 10) rfl (by decide) w_1614 c4 (Nat.le_of_ble_eq_true rfl) (Nat.le_of_ble_eq_true rfl) rfl (Nat.le_of_ble_eq_true rfl) (Nat.le_of_ble_eq_true rfl) (Nat.le_of_ble_eq_true rfl) dX11_readsHouse_99 rfl (fun v h3 hq => ?_)
    obtain ⟨rfl, hw⟩ := hq
    refine G.cse (cs' := (0, 0)) rfl ?_
    show GZ _ _ _ _ _ _ _ 102 _ [] _ _
    refine G_aload_n dX11_readsHouse_102 rfl ?_
    refine G_lload_n dX11_readsHouse_103 rfl ?_
    obtain ⟨c5, hw⟩ := wp_ck hw
    refine G_putJ fl_X11_fresh w_1431 dX11_readsHouse_104 c5 ?_
    refine G.nmh fun h6 eh6 => ?_
    have hw := wp_bd hw h6 eh6
    refine G_aload_n dX11_readsHouse_107 rfl ?_
    refine G_iconst (v := (2 : Int32)) dX11_readsHouse_108 (by decide) ?_
    obtain ⟨c9, hw⟩ := wp_ck hw
    refine G_callV (As := [.int (2 : Int32)]) (s_X11_keepsName hs l0 (2 : Int32) h6 _ (wp_cl hw)) ca_X11_keepsName w_1690 w_57 (ci := 10) rfl (by decide) w_1688 c9 (Nat.le_of_ble_eq_true rfl) (Nat.le_of_ble_eq_true rfl) rfl (Nat.le_of_ble_eq_true rfl) (Nat.le_of_ble_eq_true rfl) (Nat.le_of_ble_eq_true rfl) dX11_readsHouse_109 rfl (fun v h8 hq => ?_)
    obtain ⟨rfl, hw⟩ := hq
    refine G.cse (cs' := (0, 0)) rfl ?_
    show GZ _ _ _ _ _ _ _ 112 _ [] _ _
    refine G_aload_n dX11_readsHouse_112 rfl ?_
    obtain ⟨c12, hw⟩ := wp_ck hw
    refine G_callV (As := []) (s_X11_closes hs l0 h8 _ (wp_cl hw)) ca_X11_closes w_1694 w_58 (ci := 10) rfl (by decide) w_1692 c12 (Nat.le_of_ble_eq_true rfl) (Nat.le_of_ble_eq_true rfl) rfl (Nat.le_of_ble_eq_true rfl) (Nat.le_of_ble_eq_true rfl) (Nat.le_of_ble_eq_true rfl) dX11_readsHouse_113 rfl (fun v h11 hq => ?_)
    obtain ⟨r10, rfl, hw⟩ := hq
    refine G.cse (cs' := (0, 0)) rfl ?_
    show GZ _ _ _ _ _ _ _ 116 _ (.int r10 :: []) _ _
    obtain ⟨c13, hw⟩ := wp_ck hw
    exact G_zreturn rfl dX11_readsHouse_116 (g_nb c13) ⟨_, rfl, wp_ret hw⟩
  · have hw := hw.2 c1
    refine G_aload_n dX11_readsHouse_80 rfl ?_
    obtain ⟨c14, hw⟩ := wp_ck hw
    refine G_getR fl_X11_stockTold w_1409 dX11_readsHouse_81 c14 ?_
    obtain ⟨a15, ea15, hw⟩ := wp_rq hw
    refine G.sure ea15 ?_
    refine G_iconst (v := (5 : Int32)) dX11_readsHouse_84 (by decide) ?_
    refine G_iload_n dX11_readsHouse_85 rfl ?_
    refine G_imul dX11_readsHouse_86 ?_
    refine G_iload dX11_readsHouse_87 rfl ?_
    refine G_iadd dX11_readsHouse_89 ?_
    refine G_iconst (v := (-1 : Int32)) dX11_readsHouse_90 (by decide) ?_
    obtain ⟨c16, hw⟩ := wp_ck hw
    obtain ⟨c17, hw⟩ := wp_ck hw
    refine G_iastore dX11_readsHouse_91 c16 c17 ?_
    refine G.nmh fun h18 eh18 => ?_
    have hw := wp_bd hw h18 eh18
    obtain ⟨v19, ev19⟩ : ∃ z : Int32, z = l4 + (1 : Int32) := ⟨_, rfl⟩
    have hw := wp_bd hw v19 ev19
    refine G_iinc (v := v19) (lv' := [some (.ref l0), some (.int l1), some (.long l2), none, some (.int v19)]) dX11_readsHouse_92 rfl (by rw [ev19]; rfl) (Nat.le_of_ble_eq_true rfl) rfl ?_
    refine G_goto (tgt := 74) dX11_readsHouse_95 rfl ?_
    refine G.less [some (.ref l0), some (.int l1), some (.long l2), none, some (.int v19)] ⟨rfl, ⟨rfl, ⟨rfl, ⟨rfl, trivial⟩⟩⟩⟩ ?_
    exact hK_74 _ _ _ _ h18 Q hw
theorem f_X11_readsHouse_74_ok {Γ : GX} (hs : SF Γ) {N : Nat} : ∀ (n : Nat) (l0 : Nat) (l1 : Int32) (l2 : Int64) (l4 : Int32) (h : PH) (Q : Int32 → PH → Prop), wp (f_X11_readsHouse_74 N n l0 l1 l2 l4 h) Q → G Γ yX11_readsHouse cX11_readsHouse 5 (some .boolean) (4, 0, 0) 74 [some (.ref l0), some (.int l1), some (.long l2), none, some (.int l4)] [] h (0, 0) (q_i Q)
  | 0, _, _, _, _, _, Q, hw => (wp_no hw).elim
  | n + 1, l0, l1, l2, l4, h, Q, hw => f_X11_readsHouse_74_bok (N := N) hs (f_X11_readsHouse_74_ok (N := N) hs n) l0 l1 l2 l4 h Q hw
set_option maxHeartbeats 4000000 in
set_option maxRecDepth 100000 in
theorem s_X11_readsHouse {Γ : GX} (hs : SF Γ) {N : Nat} (l0 : Nat) (h : PH) (Q : Int32 → PH → Prop) (hw : wp (f_X11_readsHouse N l0 h) Q) : Spec Γ yX11_readsHouse cX11_readsHouse 5 (some .boolean) (4, 0, 0) [.ref l0] h (q_i Q) := by
  refine Spec.of (by decide) (Nat.le_of_ble_eq_true rfl) [some (.ref l0), none, none, none, none] rfl ?_
  unfold f_X11_readsHouse at hw
  refine G_iconst (v := (4 : Int32)) dX11_readsHouse_0 (by decide) ?_
  refine G_aload_n dX11_readsHouse_1 rfl ?_
  obtain ⟨c1, hw⟩ := wp_ck hw
  refine G_getR fl_X11_valley w_1403 dX11_readsHouse_2 c1 ?_
  obtain ⟨a2, ea2, hw⟩ := wp_rq hw
  refine G.sure ea2 ?_
  refine G_bipush (v := (8 : Int32)) dX11_readsHouse_5 (by decide) ?_
  obtain ⟨c3, hw⟩ := wp_ck hw
  obtain ⟨c4, hw⟩ := wp_ck hw
  refine G_ialoadK (k := 8) dX11_readsHouse_7 c3 (by decide) rfl c4 ?_
  refine G_iadd dX11_readsHouse_8 ?_
  refine G.topi fun v5 ev5 => ?_
  have hw := wp_bd hw v5 ev5
  refine G_istore_n (lv' := [some (.ref l0), some (.int v5), none, none, none]) dX11_readsHouse_9 (Nat.le_of_ble_eq_true rfl) rfl ?_
  refine G_iload_n dX11_readsHouse_10 rfl ?_
  refine G_bipush (v := (8 : Int32)) dX11_readsHouse_11 (by decide) ?_
  have hw := wp_if hw
  refine G_icmp_ne (tgt := 22) dX11_readsHouse_13 rfl (fun c6 => ?_) (fun c6 => ?_)
  · have hw := hw.2 c6
    refine G_aload_n dX11_readsHouse_22 rfl ?_
    refine G_callV (As := []) (s_X11_nextToken hs l0 h _ (wp_cl hw)) ca_X11_nextToken w_1616 w_46 (ci := 10) rfl (by decide) w_1614 c1 (Nat.le_of_ble_eq_true rfl) (Nat.le_of_ble_eq_true rfl) rfl (Nat.le_of_ble_eq_true rfl) (Nat.le_of_ble_eq_true rfl) (Nat.le_of_ble_eq_true rfl) dX11_readsHouse_23 rfl (fun v h8 hq => ?_)
    obtain ⟨rfl, hw⟩ := hq
    refine G.cse (cs' := (0, 0)) rfl ?_
    show GZ _ _ _ _ _ _ _ 26 _ [] _ _
    refine G_aload_n dX11_readsHouse_26 rfl ?_
    obtain ⟨c11, hw⟩ := wp_ck hw
    refine G_callV (As := []) (s_X11_needsNew hs l0 h8 _ (wp_cl hw)) ca_X11_needsNew w_1639 w_51 (ci := 10) rfl (by decide) w_1637 c11 (Nat.le_of_ble_eq_true rfl) (Nat.le_of_ble_eq_true rfl) rfl (Nat.le_of_ble_eq_true rfl) (Nat.le_of_ble_eq_true rfl) (Nat.le_of_ble_eq_true rfl) dX11_readsHouse_27 rfl (fun v h10 hq => ?_)
    obtain ⟨r9, rfl, hw⟩ := hq
    refine G.cse (cs' := (0, 0)) rfl ?_
    show GZ _ _ _ _ _ _ _ 30 _ (.int r9 :: []) _ _
    have hw := wp_if hw
    refine G_if_ne (tgt := 35) dX11_readsHouse_30 rfl (fun c12 => ?_) (fun c12 => ?_)
    · have hw := hw.2 c12
      refine G_aload_n dX11_readsHouse_35 rfl ?_
      obtain ⟨c13, hw⟩ := wp_ck hw
      refine G_getJ fl_X11_fresh w_1431 dX11_readsHouse_36 c13 ?_
      refine G.topl fun v14 ev14 => ?_
      have hw := wp_bd hw v14 ev14
      refine G_lstore_n (lv' := [some (.ref l0), some (.int v5), some (.long v14), none, none]) dX11_readsHouse_39 (Nat.le_of_ble_eq_true rfl) rfl ?_
      refine G_aload_n dX11_readsHouse_40 rfl ?_
      refine G_ldc2 (v := (47 : Int64)) dX11_readsHouse_41 w_1650 ?_
      refine G_callV (As := [.long (47 : Int64)]) (s_X11_needsWord hs l0 (47 : Int64) h10 _ (wp_cl hw)) ca_X11_needsWord w_1679 w_55 (ci := 10) rfl (by decide) w_1677 c13 (Nat.le_of_ble_eq_true rfl) (Nat.le_of_ble_eq_true rfl) rfl (Nat.le_of_ble_eq_true rfl) (Nat.le_of_ble_eq_true rfl) (Nat.le_of_ble_eq_true rfl) dX11_readsHouse_44 rfl (fun v h16 hq => ?_)
      obtain ⟨r15, rfl, hw⟩ := hq
      refine G.cse (cs' := (0, 0)) rfl ?_
      show GZ _ _ _ _ _ _ _ 47 _ (.int r15 :: []) _ _
      have hw := wp_if hw
      refine G_if_eq (tgt := 59) dX11_readsHouse_47 rfl (fun c17 => ?_) (fun c17 => ?_)
      · have hw := hw.1 c17
        refine G_iconst (v := (0 : Int32)) dX11_readsHouse_59 (by decide) ?_
        exact G_zreturn rfl dX11_readsHouse_60 rfl ⟨_, rfl, wp_ret hw⟩
      · have hw := hw.2 c17
        refine G_aload_n dX11_readsHouse_50 rfl ?_
        refine G_iconst (v := (1 : Int32)) dX11_readsHouse_51 (by decide) ?_
        refine G_iconst (v := (1 : Int32)) dX11_readsHouse_52 (by decide) ?_
        obtain ⟨c20, hw⟩ := wp_ck hw
        refine G_callV (As := [.int (1 : Int32), .int (1 : Int32)]) (s_X11_needsNamed hs l0 (1 : Int32) (1 : Int32) h16 _ (wp_cl hw)) ca_X11_needsNamed w_1710 w_62 (ci := 10) rfl (by decide) w_1708 c20 (Nat.le_of_ble_eq_true rfl) (Nat.le_of_ble_eq_true rfl) rfl (Nat.le_of_ble_eq_true rfl) (Nat.le_of_ble_eq_true rfl) (Nat.le_of_ble_eq_true rfl) dX11_readsHouse_53 rfl (fun v h19 hq => ?_)
        obtain ⟨r18, rfl, hw⟩ := hq
        refine G.cse (cs' := (0, 0)) rfl ?_
        show GZ _ _ _ _ _ _ _ 56 _ (.int r18 :: []) _ _
        have hw := wp_if hw
        refine G_if_ne (tgt := 61) dX11_readsHouse_56 rfl (fun c21 => ?_) (fun c21 => ?_)
        · have hw := hw.2 c21
          refine G_aload_n dX11_readsHouse_61 rfl ?_
          obtain ⟨c22, hw⟩ := wp_ck hw
          refine G_getR fl_X11_houseAt w_1408 dX11_readsHouse_62 c22 ?_
          obtain ⟨a23, ea23, hw⟩ := wp_rq hw
          refine G.sure ea23 ?_
          refine G_iload_n dX11_readsHouse_65 rfl ?_
          refine G_aload_n dX11_readsHouse_66 rfl ?_
          refine G_getI fl_X11_given w_1430 dX11_readsHouse_67 c22 ?_
          obtain ⟨c24, hw⟩ := wp_ck hw
          obtain ⟨c25, hw⟩ := wp_ck hw
          refine G_iastore dX11_readsHouse_70 c24 c25 ?_
          refine G.nmh fun h26 eh26 => ?_
          have hw := wp_bd hw h26 eh26
          refine G_iconst (v := (0 : Int32)) dX11_readsHouse_71 (by decide) ?_
          refine G_istore (lv' := [some (.ref l0), some (.int v5), some (.long v14), none, some (.int (0 : Int32))]) dX11_readsHouse_72 (Nat.le_of_ble_eq_true rfl) rfl ?_
          refine G.less [some (.ref l0), some (.int v5), some (.long v14), none, some (.int (0 : Int32))] ⟨rfl, ⟨rfl, ⟨rfl, ⟨rfl, trivial⟩⟩⟩⟩ ?_
          exact f_X11_readsHouse_74_ok hs N _ _ _ _ h26 Q hw
        · have hw := hw.1 c21
          refine G_iconst (v := (0 : Int32)) dX11_readsHouse_59 (by decide) ?_
          exact G_zreturn rfl dX11_readsHouse_60 rfl ⟨_, rfl, wp_ret hw⟩
    · have hw := hw.1 c12
      refine G_iconst (v := (0 : Int32)) dX11_readsHouse_33 (by decide) ?_
      exact G_zreturn rfl dX11_readsHouse_34 rfl ⟨_, rfl, wp_ret hw⟩
  · have hw := hw.1 c6
    refine G_aload_n dX11_readsHouse_16 rfl ?_
    refine G_iconst (v := (5 : Int32)) dX11_readsHouse_17 (by decide) ?_
    refine G_callV (As := [.int (5 : Int32)]) (s_X11_fails hs l0 (5 : Int32) h _ (wp_cl hw)) ca_X11_fails w_1635 w_50 (ci := 10) rfl (by decide) w_1633 c1 (Nat.le_of_ble_eq_true rfl) (Nat.le_of_ble_eq_true rfl) rfl (Nat.le_of_ble_eq_true rfl) (Nat.le_of_ble_eq_true rfl) (Nat.le_of_ble_eq_true rfl) dX11_readsHouse_18 rfl (fun v h28 hq => ?_)
    obtain ⟨r27, rfl, hw⟩ := hq
    refine G.cse (cs' := (0, 0)) rfl ?_
    show GZ _ _ _ _ _ _ _ 21 _ (.int r27 :: []) _ _
    obtain ⟨c29, hw⟩ := wp_ck hw
    exact G_zreturn rfl dX11_readsHouse_21 (g_nb c29) ⟨_, rfl, wp_ret hw⟩
set_option maxHeartbeats 4000000 in
set_option maxRecDepth 100000 in
theorem s_X11_readsStock {Γ : GX} (hs : SF Γ) {N : Nat} (l0 : Nat) (h : PH) (Q : Int32 → PH → Prop) (hw : wp (f_X11_readsStock N l0 h) Q) : Spec Γ yX11_readsStock cX11_readsStock 3 (some .boolean) (4, 0, 0) [.ref l0] h (q_i Q) := by
  refine Spec.of (by decide) (Nat.le_of_ble_eq_true rfl) [some (.ref l0), none, none] rfl ?_
  unfold f_X11_readsStock at hw
  refine G_aload_n dX11_readsStock_0 rfl ?_
  obtain ⟨c3, hw⟩ := wp_ck hw
  refine G_callV (As := []) (s_X11_nextToken hs l0 h _ (wp_cl hw)) ca_X11_nextToken w_1616 w_46 (ci := 10) rfl (by decide) w_1614 c3 (Nat.le_of_ble_eq_true rfl) (Nat.le_of_ble_eq_true rfl) rfl (Nat.le_of_ble_eq_true rfl) (Nat.le_of_ble_eq_true rfl) (Nat.le_of_ble_eq_true rfl) dX11_readsStock_1 rfl (fun v h2 hq => ?_)
  obtain ⟨rfl, hw⟩ := hq
  refine G.cse (cs' := (0, 0)) rfl ?_
  show GZ _ _ _ _ _ _ _ 4 _ [] _ _
  refine G_aload_n dX11_readsStock_4 rfl ?_
  refine G_iconst (v := (1 : Int32)) dX11_readsStock_5 (by decide) ?_
  refine G_iconst (v := (2 : Int32)) dX11_readsStock_6 (by decide) ?_
  obtain ⟨c6, hw⟩ := wp_ck hw
  refine G_callV (As := [.int (1 : Int32), .int (2 : Int32)]) (s_X11_needsNamed hs l0 (1 : Int32) (2 : Int32) h2 _ (wp_cl hw)) ca_X11_needsNamed w_1710 w_62 (ci := 10) rfl (by decide) w_1708 c6 (Nat.le_of_ble_eq_true rfl) (Nat.le_of_ble_eq_true rfl) rfl (Nat.le_of_ble_eq_true rfl) (Nat.le_of_ble_eq_true rfl) (Nat.le_of_ble_eq_true rfl) dX11_readsStock_7 rfl (fun v h5 hq => ?_)
  obtain ⟨r4, rfl, hw⟩ := hq
  refine G.cse (cs' := (0, 0)) rfl ?_
  show GZ _ _ _ _ _ _ _ 10 _ (.int r4 :: []) _ _
  have hw := wp_if hw
  refine G_if_ne (tgt := 15) dX11_readsStock_10 rfl (fun c7 => ?_) (fun c7 => ?_)
  · have hw := hw.2 c7
    refine G_aload_n dX11_readsStock_15 rfl ?_
    obtain ⟨c8, hw⟩ := wp_ck hw
    refine G_getI fl_X11_given w_1430 dX11_readsStock_16 c8 ?_
    refine G.topi fun v9 ev9 => ?_
    have hw := wp_bd hw v9 ev9
    refine G_istore_n (lv' := [some (.ref l0), some (.int v9), none]) dX11_readsStock_19 (Nat.le_of_ble_eq_true rfl) rfl ?_
    refine G_aload_n dX11_readsStock_20 rfl ?_
    refine G_callV (As := []) (s_X11_nextToken hs l0 h5 _ (wp_cl hw)) ca_X11_nextToken w_1616 w_46 (ci := 10) rfl (by decide) w_1614 c8 (Nat.le_of_ble_eq_true rfl) (Nat.le_of_ble_eq_true rfl) rfl (Nat.le_of_ble_eq_true rfl) (Nat.le_of_ble_eq_true rfl) (Nat.le_of_ble_eq_true rfl) dX11_readsStock_21 rfl (fun v h11 hq => ?_)
    obtain ⟨rfl, hw⟩ := hq
    refine G.cse (cs' := (0, 0)) rfl ?_
    show GZ _ _ _ _ _ _ _ 24 _ [] _ _
    refine G_aload_n dX11_readsStock_24 rfl ?_
    refine G_iconst (v := (1 : Int32)) dX11_readsStock_25 (by decide) ?_
    refine G_iconst (v := (0 : Int32)) dX11_readsStock_26 (by decide) ?_
    obtain ⟨c14, hw⟩ := wp_ck hw
    refine G_callV (As := [.int (1 : Int32), .int (0 : Int32)]) (s_X11_needsNamed hs l0 (1 : Int32) (0 : Int32) h11 _ (wp_cl hw)) ca_X11_needsNamed w_1710 w_62 (ci := 10) rfl (by decide) w_1708 c14 (Nat.le_of_ble_eq_true rfl) (Nat.le_of_ble_eq_true rfl) rfl (Nat.le_of_ble_eq_true rfl) (Nat.le_of_ble_eq_true rfl) (Nat.le_of_ble_eq_true rfl) dX11_readsStock_27 rfl (fun v h13 hq => ?_)
    obtain ⟨r12, rfl, hw⟩ := hq
    refine G.cse (cs' := (0, 0)) rfl ?_
    show GZ _ _ _ _ _ _ _ 30 _ (.int r12 :: []) _ _
    have hw := wp_if hw
    refine G_if_ne (tgt := 35) dX11_readsStock_30 rfl (fun c15 => ?_) (fun c15 => ?_)
    · have hw := hw.2 c15
      refine G_bipush (v := (20 : Int32)) dX11_readsStock_35 (by decide) ?_
      refine G_iconst (v := (5 : Int32)) dX11_readsStock_37 (by decide) ?_
      refine G_iload_n dX11_readsStock_38 rfl ?_
      refine G_imul dX11_readsStock_39 ?_
      refine G_iadd dX11_readsStock_40 ?_
      refine G_aload_n dX11_readsStock_41 rfl ?_
      obtain ⟨c16, hw⟩ := wp_ck hw
      refine G_getI fl_X11_given w_1430 dX11_readsStock_42 c16 ?_
      refine G_iadd dX11_readsStock_45 ?_
      refine G.topi fun v17 ev17 => ?_
      have hw := wp_bd hw v17 ev17
      refine G_istore_n (lv' := [some (.ref l0), some (.int v9), some (.int v17)]) dX11_readsStock_46 (Nat.le_of_ble_eq_true rfl) rfl ?_
      refine G_aload_n dX11_readsStock_47 rfl ?_
      refine G_getR fl_X11_stockTold w_1409 dX11_readsStock_48 c16 ?_
      obtain ⟨a18, ea18, hw⟩ := wp_rq hw
      refine G.sure ea18 ?_
      refine G_iload_n dX11_readsStock_51 rfl ?_
      obtain ⟨c19, hw⟩ := wp_ck hw
      obtain ⟨c20, hw⟩ := wp_ck hw
      refine G_iaload dX11_readsStock_52 c19 c20 ?_
      have hw := wp_if hw
      refine G_if_lt (tgt := 62) dX11_readsStock_53 rfl (fun c21 => ?_) (fun c21 => ?_)
      · have hw := hw.1 c21
        refine G_aload_n dX11_readsStock_62 rfl ?_
        refine G_callV (As := []) (s_X11_nextToken hs l0 h13 _ (wp_cl hw)) ca_X11_nextToken w_1616 w_46 (ci := 10) rfl (by decide) w_1614 c16 (Nat.le_of_ble_eq_true rfl) (Nat.le_of_ble_eq_true rfl) rfl (Nat.le_of_ble_eq_true rfl) (Nat.le_of_ble_eq_true rfl) (Nat.le_of_ble_eq_true rfl) dX11_readsStock_63 rfl (fun v h23 hq => ?_)
        obtain ⟨rfl, hw⟩ := hq
        refine G.cse (cs' := (0, 0)) rfl ?_
        show GZ _ _ _ _ _ _ _ 66 _ [] _ _
        refine G_aload_n dX11_readsStock_66 rfl ?_
        refine G_iconst (v := (0 : Int32)) dX11_readsStock_67 (by decide) ?_
        refine G_bipush (v := (99 : Int32)) dX11_readsStock_68 (by decide) ?_
        obtain ⟨c26, hw⟩ := wp_ck hw
        refine G_callV (As := [.int (0 : Int32), .int (99 : Int32)]) (s_X11_needsNumber hs l0 (0 : Int32) (99 : Int32) h23 _ (wp_cl hw)) ca_X11_needsNumber w_1683 w_56 (ci := 10) rfl (by decide) w_1681 c26 (Nat.le_of_ble_eq_true rfl) (Nat.le_of_ble_eq_true rfl) rfl (Nat.le_of_ble_eq_true rfl) (Nat.le_of_ble_eq_true rfl) (Nat.le_of_ble_eq_true rfl) dX11_readsStock_70 rfl (fun v h25 hq => ?_)
        obtain ⟨r24, rfl, hw⟩ := hq
        refine G.cse (cs' := (0, 0)) rfl ?_
        show GZ _ _ _ _ _ _ _ 73 _ (.int r24 :: []) _ _
        have hw := wp_if hw
        refine G_if_ne (tgt := 78) dX11_readsStock_73 rfl (fun c27 => ?_) (fun c27 => ?_)
        · have hw := hw.2 c27
          refine G_aload_n dX11_readsStock_78 rfl ?_
          obtain ⟨c28, hw⟩ := wp_ck hw
          refine G_getR fl_X11_stockTold w_1409 dX11_readsStock_79 c28 ?_
          obtain ⟨a29, ea29, hw⟩ := wp_rq hw
          refine G.sure ea29 ?_
          refine G_iload_n dX11_readsStock_82 rfl ?_
          refine G_aload_n dX11_readsStock_83 rfl ?_
          refine G_getI fl_X11_given w_1430 dX11_readsStock_84 c28 ?_
          obtain ⟨c30, hw⟩ := wp_ck hw
          obtain ⟨c31, hw⟩ := wp_ck hw
          refine G_iastore dX11_readsStock_87 c30 c31 ?_
          refine G.nmh fun h32 eh32 => ?_
          have hw := wp_bd hw h32 eh32
          refine G_aload_n dX11_readsStock_88 rfl ?_
          obtain ⟨c35, hw⟩ := wp_ck hw
          refine G_callV (As := []) (s_X11_closes hs l0 h32 _ (wp_cl hw)) ca_X11_closes w_1694 w_58 (ci := 10) rfl (by decide) w_1692 c35 (Nat.le_of_ble_eq_true rfl) (Nat.le_of_ble_eq_true rfl) rfl (Nat.le_of_ble_eq_true rfl) (Nat.le_of_ble_eq_true rfl) (Nat.le_of_ble_eq_true rfl) dX11_readsStock_89 rfl (fun v h34 hq => ?_)
          obtain ⟨r33, rfl, hw⟩ := hq
          refine G.cse (cs' := (0, 0)) rfl ?_
          show GZ _ _ _ _ _ _ _ 92 _ (.int r33 :: []) _ _
          obtain ⟨c36, hw⟩ := wp_ck hw
          exact G_zreturn rfl dX11_readsStock_92 (g_nb c36) ⟨_, rfl, wp_ret hw⟩
        · have hw := hw.1 c27
          refine G_iconst (v := (0 : Int32)) dX11_readsStock_76 (by decide) ?_
          exact G_zreturn rfl dX11_readsStock_77 rfl ⟨_, rfl, wp_ret hw⟩
      · have hw := hw.2 c21
        refine G_aload_n dX11_readsStock_56 rfl ?_
        refine G_iconst (v := (3 : Int32)) dX11_readsStock_57 (by decide) ?_
        refine G_callV (As := [.int (3 : Int32)]) (s_X11_fails hs l0 (3 : Int32) h13 _ (wp_cl hw)) ca_X11_fails w_1635 w_50 (ci := 10) rfl (by decide) w_1633 c16 (Nat.le_of_ble_eq_true rfl) (Nat.le_of_ble_eq_true rfl) rfl (Nat.le_of_ble_eq_true rfl) (Nat.le_of_ble_eq_true rfl) (Nat.le_of_ble_eq_true rfl) dX11_readsStock_58 rfl (fun v h38 hq => ?_)
        obtain ⟨r37, rfl, hw⟩ := hq
        refine G.cse (cs' := (0, 0)) rfl ?_
        show GZ _ _ _ _ _ _ _ 61 _ (.int r37 :: []) _ _
        obtain ⟨c39, hw⟩ := wp_ck hw
        exact G_zreturn rfl dX11_readsStock_61 (g_nb c39) ⟨_, rfl, wp_ret hw⟩
    · have hw := hw.1 c15
      refine G_iconst (v := (0 : Int32)) dX11_readsStock_33 (by decide) ?_
      exact G_zreturn rfl dX11_readsStock_34 rfl ⟨_, rfl, wp_ret hw⟩
  · have hw := hw.1 c7
    refine G_iconst (v := (0 : Int32)) dX11_readsStock_13 (by decide) ?_
    exact G_zreturn rfl dX11_readsStock_14 rfl ⟨_, rfl, wp_ret hw⟩
set_option maxHeartbeats 4000000 in
set_option maxRecDepth 100000 in
theorem s_X11_readsSpan {Γ : GX} (hs : SF Γ) {N : Nat} (l0 : Nat) (l1 : Int64) (l3 : Int32) (h : PH) (Q : Int32 → PH → Prop) (hw : wp (f_X11_readsSpan N l0 l1 l3 h) Q) : Spec Γ yX11_readsSpan cX11_readsSpan 4 (some .boolean) (5, 0, 0) [.ref l0, .long l1, .int l3] h (q_i Q) := by
  refine Spec.of (by decide) (Nat.le_of_ble_eq_true rfl) [some (.ref l0), some (.long l1), none, some (.int l3)] rfl ?_
  unfold f_X11_readsSpan at hw
  refine G_aload_n dX11_readsSpan_0 rfl ?_
  refine G_lload_n dX11_readsSpan_1 rfl ?_
  refine G_iconst (v := (0 : Int32)) dX11_readsSpan_2 (by decide) ?_
  refine G_sipush (v := (999 : Int32)) dX11_readsSpan_3 (by decide) ?_
  obtain ⟨c3, hw⟩ := wp_ck hw
  refine G_callV (As := [.long l1, .int (0 : Int32), .int (999 : Int32)]) (s_X11_needsBoth hs l0 l1 (0 : Int32) (999 : Int32) h _ (wp_cl hw)) ca_X11_needsBoth w_1675 w_54 (ci := 10) rfl (by decide) w_1673 c3 (Nat.le_of_ble_eq_true rfl) (Nat.le_of_ble_eq_true rfl) rfl (Nat.le_of_ble_eq_true rfl) (Nat.le_of_ble_eq_true rfl) (Nat.le_of_ble_eq_true rfl) dX11_readsSpan_6 rfl (fun v h2 hq => ?_)
  obtain ⟨r1, rfl, hw⟩ := hq
  refine G.cse (cs' := (0, 0)) rfl ?_
  show GZ _ _ _ _ _ _ _ 9 _ (.int r1 :: []) _ _
  have hw := wp_if hw
  refine G_if_ne (tgt := 14) dX11_readsSpan_9 rfl (fun c4 => ?_) (fun c4 => ?_)
  · have hw := hw.2 c4
    refine G_aload_n dX11_readsSpan_14 rfl ?_
    obtain ⟨c5, hw⟩ := wp_ck hw
    refine G_getR fl_X11_signs w_1410 dX11_readsSpan_15 c5 ?_
    obtain ⟨a6, ea6, hw⟩ := wp_rq hw
    refine G.sure ea6 ?_
    refine G_iload_n dX11_readsSpan_18 rfl ?_
    refine G_aload_n dX11_readsSpan_19 rfl ?_
    refine G_getI fl_X11_given w_1430 dX11_readsSpan_20 c5 ?_
    obtain ⟨c7, hw⟩ := wp_ck hw
    obtain ⟨c8, hw⟩ := wp_ck hw
    refine G_iastore dX11_readsSpan_23 c7 c8 ?_
    refine G.nmh fun h9 eh9 => ?_
    have hw := wp_bd hw h9 eh9
    refine G_aload_n dX11_readsSpan_24 rfl ?_
    refine G_ldc2 (v := (555 : Int64)) dX11_readsSpan_25 w_1653 ?_
    refine G_aload_n dX11_readsSpan_28 rfl ?_
    obtain ⟨c10, hw⟩ := wp_ck hw
    refine G_getR fl_X11_signs w_1410 dX11_readsSpan_29 c10 ?_
    obtain ⟨a11, ea11, hw⟩ := wp_rq hw
    refine G.sure ea11 ?_
    refine G_iload_n dX11_readsSpan_32 rfl ?_
    obtain ⟨c12, hw⟩ := wp_ck hw
    obtain ⟨c13, hw⟩ := wp_ck hw
    refine G_iaload dX11_readsSpan_33 c12 c13 ?_
    refine G_sipush (v := (999 : Int32)) dX11_readsSpan_34 (by decide) ?_
    refine G_callV (As := [.long (555 : Int64), .int (hI h9 a11 (ix l3)), .int (999 : Int32)]) (s_X11_needsBoth hs l0 (555 : Int64) (hI h9 a11 (ix l3)) (999 : Int32) h9 _ (wp_cl hw)) ca_X11_needsBoth w_1675 w_54 (ci := 10) rfl (by decide) w_1673 c10 (Nat.le_of_ble_eq_true rfl) (Nat.le_of_ble_eq_true rfl) rfl (Nat.le_of_ble_eq_true rfl) (Nat.le_of_ble_eq_true rfl) (Nat.le_of_ble_eq_true rfl) dX11_readsSpan_37 rfl (fun v h15 hq => ?_)
    obtain ⟨r14, rfl, hw⟩ := hq
    refine G.cse (cs' := (0, 0)) rfl ?_
    show GZ _ _ _ _ _ _ _ 40 _ (.int r14 :: []) _ _
    have hw := wp_if hw
    refine G_if_ne (tgt := 45) dX11_readsSpan_40 rfl (fun c16 => ?_) (fun c16 => ?_)
    · have hw := hw.2 c16
      refine G_aload_n dX11_readsSpan_45 rfl ?_
      obtain ⟨c17, hw⟩ := wp_ck hw
      refine G_getR fl_X11_signs w_1410 dX11_readsSpan_46 c17 ?_
      obtain ⟨a18, ea18, hw⟩ := wp_rq hw
      refine G.sure ea18 ?_
      refine G_iload_n dX11_readsSpan_49 rfl ?_
      refine G_iconst (v := (1 : Int32)) dX11_readsSpan_50 (by decide) ?_
      refine G_iadd dX11_readsSpan_51 ?_
      refine G_aload_n dX11_readsSpan_52 rfl ?_
      refine G_getI fl_X11_given w_1430 dX11_readsSpan_53 c17 ?_
      obtain ⟨c19, hw⟩ := wp_ck hw
      obtain ⟨c20, hw⟩ := wp_ck hw
      refine G_iastore dX11_readsSpan_56 c19 c20 ?_
      refine G.nmh fun h21 eh21 => ?_
      have hw := wp_bd hw h21 eh21
      refine G_iconst (v := (1 : Int32)) dX11_readsSpan_57 (by decide) ?_
      exact G_zreturn rfl dX11_readsSpan_58 rfl ⟨_, rfl, wp_ret hw⟩
    · have hw := hw.1 c16
      refine G_iconst (v := (0 : Int32)) dX11_readsSpan_43 (by decide) ?_
      exact G_zreturn rfl dX11_readsSpan_44 rfl ⟨_, rfl, wp_ret hw⟩
  · have hw := hw.1 c4
    refine G_iconst (v := (0 : Int32)) dX11_readsSpan_12 (by decide) ?_
    exact G_zreturn rfl dX11_readsSpan_13 rfl ⟨_, rfl, wp_ret hw⟩
set_option maxHeartbeats 4000000 in
set_option maxRecDepth 100000 in
theorem s_X11_readsSign {Γ : GX} (hs : SF Γ) {N : Nat} (l0 : Nat) (h : PH) (Q : Int32 → PH → Prop) (hw : wp (f_X11_readsSign N l0 h) Q) : Spec Γ yX11_readsSign cX11_readsSign 2 (some .boolean) (6, 0, 0) [.ref l0] h (q_i Q) := by
  refine Spec.of (by decide) (Nat.le_of_ble_eq_true rfl) [some (.ref l0), none] rfl ?_
  unfold f_X11_readsSign at hw
  refine G_bipush (v := (6 : Int32)) dX11_readsSign_0 (by decide) ?_
  refine G_aload_n dX11_readsSign_2 rfl ?_
  obtain ⟨c1, hw⟩ := wp_ck hw
  refine G_getR fl_X11_valley w_1403 dX11_readsSign_3 c1 ?_
  obtain ⟨a2, ea2, hw⟩ := wp_rq hw
  refine G.sure ea2 ?_
  refine G_bipush (v := (9 : Int32)) dX11_readsSign_6 (by decide) ?_
  obtain ⟨c3, hw⟩ := wp_ck hw
  obtain ⟨c4, hw⟩ := wp_ck hw
  refine G_ialoadK (k := 9) dX11_readsSign_8 c3 (by decide) rfl c4 ?_
  refine G_iadd dX11_readsSign_9 ?_
  refine G.topi fun v5 ev5 => ?_
  have hw := wp_bd hw v5 ev5
  refine G_istore_n (lv' := [some (.ref l0), some (.int v5)]) dX11_readsSign_10 (Nat.le_of_ble_eq_true rfl) rfl ?_
  refine G_iload_n dX11_readsSign_11 rfl ?_
  refine G_bipush (v := (12 : Int32)) dX11_readsSign_12 (by decide) ?_
  have hw := wp_if hw
  refine G_icmp_ne (tgt := 23) dX11_readsSign_14 rfl (fun c6 => ?_) (fun c6 => ?_)
  · have hw := hw.2 c6
    refine G_aload_n dX11_readsSign_23 rfl ?_
    refine G_callV (As := []) (s_X11_nextToken hs l0 h _ (wp_cl hw)) ca_X11_nextToken w_1616 w_46 (ci := 10) rfl (by decide) w_1614 c1 (Nat.le_of_ble_eq_true rfl) (Nat.le_of_ble_eq_true rfl) rfl (Nat.le_of_ble_eq_true rfl) (Nat.le_of_ble_eq_true rfl) (Nat.le_of_ble_eq_true rfl) dX11_readsSign_24 rfl (fun v h8 hq => ?_)
    obtain ⟨rfl, hw⟩ := hq
    refine G.cse (cs' := (0, 0)) rfl ?_
    show GZ _ _ _ _ _ _ _ 27 _ [] _ _
    refine G_aload_n dX11_readsSign_27 rfl ?_
    obtain ⟨c11, hw⟩ := wp_ck hw
    refine G_callV (As := []) (s_X11_needsNew hs l0 h8 _ (wp_cl hw)) ca_X11_needsNew w_1639 w_51 (ci := 10) rfl (by decide) w_1637 c11 (Nat.le_of_ble_eq_true rfl) (Nat.le_of_ble_eq_true rfl) rfl (Nat.le_of_ble_eq_true rfl) (Nat.le_of_ble_eq_true rfl) (Nat.le_of_ble_eq_true rfl) dX11_readsSign_28 rfl (fun v h10 hq => ?_)
    obtain ⟨r9, rfl, hw⟩ := hq
    refine G.cse (cs' := (0, 0)) rfl ?_
    show GZ _ _ _ _ _ _ _ 31 _ (.int r9 :: []) _ _
    have hw := wp_if hw
    refine G_if_eq (tgt := 62) dX11_readsSign_31 rfl (fun c12 => ?_) (fun c12 => ?_)
    · have hw := hw.1 c12
      refine G_iconst (v := (0 : Int32)) dX11_readsSign_62 (by decide) ?_
      exact G_zreturn rfl dX11_readsSign_63 rfl ⟨_, rfl, wp_ret hw⟩
    · have hw := hw.2 c12
      refine G_aload_n dX11_readsSign_34 rfl ?_
      refine G_ldc2 (v := (79958 : Int64)) dX11_readsSign_35 w_1645 ?_
      refine G_iconst (v := (4 : Int32)) dX11_readsSign_38 (by decide) ?_
      refine G_iload_n dX11_readsSign_39 rfl ?_
      refine G_imul dX11_readsSign_40 ?_
      obtain ⟨c15, hw⟩ := wp_ck hw
      refine G_callV (As := [.long (79958 : Int64), .int ((4 : Int32) * v5)]) (s_X11_readsSpan hs l0 (79958 : Int64) ((4 : Int32) * v5) h10 _ (wp_cl hw)) ca_X11_readsSpan w_1722 w_65 (ci := 10) rfl (by decide) w_1720 c15 (Nat.le_of_ble_eq_true rfl) (Nat.le_of_ble_eq_true rfl) rfl (Nat.le_of_ble_eq_true rfl) (Nat.le_of_ble_eq_true rfl) (Nat.le_of_ble_eq_true rfl) dX11_readsSign_41 rfl (fun v h14 hq => ?_)
      obtain ⟨r13, rfl, hw⟩ := hq
      refine G.cse (cs' := (0, 0)) rfl ?_
      show GZ _ _ _ _ _ _ _ 44 _ (.int r13 :: []) _ _
      have hw := wp_if hw
      refine G_if_eq (tgt := 62) dX11_readsSign_44 rfl (fun c16 => ?_) (fun c16 => ?_)
      · have hw := hw.1 c16
        refine G_iconst (v := (0 : Int32)) dX11_readsSign_62 (by decide) ?_
        exact G_zreturn rfl dX11_readsSign_63 rfl ⟨_, rfl, wp_ret hw⟩
      · have hw := hw.2 c16
        refine G_aload_n dX11_readsSign_47 rfl ?_
        refine G_ldc2 (v := (10553888 : Int64)) dX11_readsSign_48 w_1646 ?_
        refine G_iconst (v := (4 : Int32)) dX11_readsSign_51 (by decide) ?_
        refine G_iload_n dX11_readsSign_52 rfl ?_
        refine G_imul dX11_readsSign_53 ?_
        refine G_iconst (v := (2 : Int32)) dX11_readsSign_54 (by decide) ?_
        refine G_iadd dX11_readsSign_55 ?_
        obtain ⟨c19, hw⟩ := wp_ck hw
        refine G_callV (As := [.long (10553888 : Int64), .int (((4 : Int32) * v5) + (2 : Int32))]) (s_X11_readsSpan hs l0 (10553888 : Int64) (((4 : Int32) * v5) + (2 : Int32)) h14 _ (wp_cl hw)) ca_X11_readsSpan w_1722 w_65 (ci := 10) rfl (by decide) w_1720 c19 (Nat.le_of_ble_eq_true rfl) (Nat.le_of_ble_eq_true rfl) rfl (Nat.le_of_ble_eq_true rfl) (Nat.le_of_ble_eq_true rfl) (Nat.le_of_ble_eq_true rfl) dX11_readsSign_56 rfl (fun v h18 hq => ?_)
        obtain ⟨r17, rfl, hw⟩ := hq
        refine G.cse (cs' := (0, 0)) rfl ?_
        show GZ _ _ _ _ _ _ _ 59 _ (.int r17 :: []) _ _
        have hw := wp_if hw
        refine G_if_ne (tgt := 64) dX11_readsSign_59 rfl (fun c20 => ?_) (fun c20 => ?_)
        · have hw := hw.2 c20
          refine G_aload_n dX11_readsSign_64 rfl ?_
          refine G_iconst (v := (3 : Int32)) dX11_readsSign_65 (by decide) ?_
          obtain ⟨c23, hw⟩ := wp_ck hw
          refine G_callV (As := [.int (3 : Int32)]) (s_X11_keepsName hs l0 (3 : Int32) h18 _ (wp_cl hw)) ca_X11_keepsName w_1690 w_57 (ci := 10) rfl (by decide) w_1688 c23 (Nat.le_of_ble_eq_true rfl) (Nat.le_of_ble_eq_true rfl) rfl (Nat.le_of_ble_eq_true rfl) (Nat.le_of_ble_eq_true rfl) (Nat.le_of_ble_eq_true rfl) dX11_readsSign_66 rfl (fun v h22 hq => ?_)
          obtain ⟨rfl, hw⟩ := hq
          refine G.cse (cs' := (0, 0)) rfl ?_
          show GZ _ _ _ _ _ _ _ 69 _ [] _ _
          refine G_aload_n dX11_readsSign_69 rfl ?_
          obtain ⟨c26, hw⟩ := wp_ck hw
          refine G_callV (As := []) (s_X11_closes hs l0 h22 _ (wp_cl hw)) ca_X11_closes w_1694 w_58 (ci := 10) rfl (by decide) w_1692 c26 (Nat.le_of_ble_eq_true rfl) (Nat.le_of_ble_eq_true rfl) rfl (Nat.le_of_ble_eq_true rfl) (Nat.le_of_ble_eq_true rfl) (Nat.le_of_ble_eq_true rfl) dX11_readsSign_70 rfl (fun v h25 hq => ?_)
          obtain ⟨r24, rfl, hw⟩ := hq
          refine G.cse (cs' := (0, 0)) rfl ?_
          show GZ _ _ _ _ _ _ _ 73 _ (.int r24 :: []) _ _
          obtain ⟨c27, hw⟩ := wp_ck hw
          exact G_zreturn rfl dX11_readsSign_73 (g_nb c27) ⟨_, rfl, wp_ret hw⟩
        · have hw := hw.1 c20
          refine G_iconst (v := (0 : Int32)) dX11_readsSign_62 (by decide) ?_
          exact G_zreturn rfl dX11_readsSign_63 rfl ⟨_, rfl, wp_ret hw⟩
  · have hw := hw.1 c6
    refine G_aload_n dX11_readsSign_17 rfl ?_
    refine G_iconst (v := (5 : Int32)) dX11_readsSign_18 (by decide) ?_
    refine G_callV (As := [.int (5 : Int32)]) (s_X11_fails hs l0 (5 : Int32) h _ (wp_cl hw)) ca_X11_fails w_1635 w_50 (ci := 10) rfl (by decide) w_1633 c1 (Nat.le_of_ble_eq_true rfl) (Nat.le_of_ble_eq_true rfl) rfl (Nat.le_of_ble_eq_true rfl) (Nat.le_of_ble_eq_true rfl) (Nat.le_of_ble_eq_true rfl) dX11_readsSign_19 rfl (fun v h29 hq => ?_)
    obtain ⟨r28, rfl, hw⟩ := hq
    refine G.cse (cs' := (0, 0)) rfl ?_
    show GZ _ _ _ _ _ _ _ 22 _ (.int r28 :: []) _ _
    obtain ⟨c30, hw⟩ := wp_ck hw
    exact G_zreturn rfl dX11_readsSign_22 (g_nb c30) ⟨_, rfl, wp_ret hw⟩
set_option maxHeartbeats 4000000 in
set_option maxRecDepth 100000 in
theorem f_X11_readsWatcher_93_ok {Γ : GX} (hs : SF Γ) {N : Nat} (s0 : Int32) (s1 : Int32) (s2 : Nat) (l0 : Nat) (l1 : Int32) (h : PH) (Q : Int32 → PH → Prop) (hw : wp (f_X11_readsWatcher_93 N s0 s1 s2 l0 l1 h) Q) : G Γ yX11_readsWatcher cX11_readsWatcher 2 (some .boolean) (4, 0, 0) 93 [some (.ref l0), some (.int l1)] [.int s0, .int s1, .ref s2] h (0, 0) (q_i Q) := by
  unfold f_X11_readsWatcher_93 at hw
  obtain ⟨c1, hw⟩ := wp_ck hw
  obtain ⟨c2, hw⟩ := wp_ck hw
  refine G_iastore dX11_readsWatcher_93 c1 c2 ?_
  refine G.nmh fun h3 eh3 => ?_
  have hw := wp_bd hw h3 eh3
  refine G_aload_n dX11_readsWatcher_94 rfl ?_
  obtain ⟨c4, hw⟩ := wp_ck hw
  refine G_getR fl_X11_sight w_1411 dX11_readsWatcher_95 c4 ?_
  obtain ⟨a5, ea5, hw⟩ := wp_rq hw
  refine G.sure ea5 ?_
  refine G_iload_n dX11_readsWatcher_98 rfl ?_
  obtain ⟨c6, hw⟩ := wp_ck hw
  obtain ⟨c7, hw⟩ := wp_ck hw
  refine G_iaload dX11_readsWatcher_99 c6 c7 ?_
  have hw := wp_if hw
  refine G_if_ge (tgt := 109) dX11_readsWatcher_100 rfl (fun c8 => ?_) (fun c8 => ?_)
  · have hw := hw.1 c8
    refine G_aload_n dX11_readsWatcher_109 rfl ?_
    refine G_callV (As := []) (s_X11_nextToken hs l0 h3 _ (wp_cl hw)) ca_X11_nextToken w_1616 w_46 (ci := 10) rfl (by decide) w_1614 c4 (Nat.le_of_ble_eq_true rfl) (Nat.le_of_ble_eq_true rfl) rfl (Nat.le_of_ble_eq_true rfl) (Nat.le_of_ble_eq_true rfl) (Nat.le_of_ble_eq_true rfl) dX11_readsWatcher_110 rfl (fun v h10 hq => ?_)
    obtain ⟨rfl, hw⟩ := hq
    refine G.cse (cs' := (0, 0)) rfl ?_
    show GZ _ _ _ _ _ _ _ 113 _ [] _ _
    refine G_aload_n dX11_readsWatcher_113 rfl ?_
    refine G_iconst (v := (4 : Int32)) dX11_readsWatcher_114 (by decide) ?_
    obtain ⟨c13, hw⟩ := wp_ck hw
    refine G_callV (As := [.int (4 : Int32)]) (s_X11_keepsName hs l0 (4 : Int32) h10 _ (wp_cl hw)) ca_X11_keepsName w_1690 w_57 (ci := 10) rfl (by decide) w_1688 c13 (Nat.le_of_ble_eq_true rfl) (Nat.le_of_ble_eq_true rfl) rfl (Nat.le_of_ble_eq_true rfl) (Nat.le_of_ble_eq_true rfl) (Nat.le_of_ble_eq_true rfl) dX11_readsWatcher_115 rfl (fun v h12 hq => ?_)
    obtain ⟨rfl, hw⟩ := hq
    refine G.cse (cs' := (0, 0)) rfl ?_
    show GZ _ _ _ _ _ _ _ 118 _ [] _ _
    refine G_aload_n dX11_readsWatcher_118 rfl ?_
    obtain ⟨c16, hw⟩ := wp_ck hw
    refine G_callV (As := []) (s_X11_closes hs l0 h12 _ (wp_cl hw)) ca_X11_closes w_1694 w_58 (ci := 10) rfl (by decide) w_1692 c16 (Nat.le_of_ble_eq_true rfl) (Nat.le_of_ble_eq_true rfl) rfl (Nat.le_of_ble_eq_true rfl) (Nat.le_of_ble_eq_true rfl) (Nat.le_of_ble_eq_true rfl) dX11_readsWatcher_119 rfl (fun v h15 hq => ?_)
    obtain ⟨r14, rfl, hw⟩ := hq
    refine G.cse (cs' := (0, 0)) rfl ?_
    show GZ _ _ _ _ _ _ _ 122 _ (.int r14 :: []) _ _
    obtain ⟨c17, hw⟩ := wp_ck hw
    exact G_zreturn rfl dX11_readsWatcher_122 (g_nb c17) ⟨_, rfl, wp_ret hw⟩
  · have hw := hw.2 c8
    refine G_aload_n dX11_readsWatcher_103 rfl ?_
    refine G_iconst (v := (1 : Int32)) dX11_readsWatcher_104 (by decide) ?_
    refine G_callV (As := [.int (1 : Int32)]) (s_X11_fails hs l0 (1 : Int32) h3 _ (wp_cl hw)) ca_X11_fails w_1635 w_50 (ci := 10) rfl (by decide) w_1633 c4 (Nat.le_of_ble_eq_true rfl) (Nat.le_of_ble_eq_true rfl) rfl (Nat.le_of_ble_eq_true rfl) (Nat.le_of_ble_eq_true rfl) (Nat.le_of_ble_eq_true rfl) dX11_readsWatcher_105 rfl (fun v h19 hq => ?_)
    obtain ⟨r18, rfl, hw⟩ := hq
    refine G.cse (cs' := (0, 0)) rfl ?_
    show GZ _ _ _ _ _ _ _ 108 _ (.int r18 :: []) _ _
    obtain ⟨c20, hw⟩ := wp_ck hw
    exact G_zreturn rfl dX11_readsWatcher_108 (g_nb c20) ⟨_, rfl, wp_ret hw⟩
set_option maxHeartbeats 4000000 in
set_option maxRecDepth 100000 in
theorem s_X11_readsWatcher {Γ : GX} (hs : SF Γ) {N : Nat} (l0 : Nat) (h : PH) (Q : Int32 → PH → Prop) (hw : wp (f_X11_readsWatcher N l0 h) Q) : Spec Γ yX11_readsWatcher cX11_readsWatcher 2 (some .boolean) (4, 0, 0) [.ref l0] h (q_i Q) := by
  refine Spec.of (by decide) (Nat.le_of_ble_eq_true rfl) [some (.ref l0), none] rfl ?_
  unfold f_X11_readsWatcher at hw
  refine G_iconst (v := (4 : Int32)) dX11_readsWatcher_0 (by decide) ?_
  refine G_aload_n dX11_readsWatcher_1 rfl ?_
  obtain ⟨c1, hw⟩ := wp_ck hw
  refine G_getR fl_X11_valley w_1403 dX11_readsWatcher_2 c1 ?_
  obtain ⟨a2, ea2, hw⟩ := wp_rq hw
  refine G.sure ea2 ?_
  refine G_bipush (v := (10 : Int32)) dX11_readsWatcher_5 (by decide) ?_
  obtain ⟨c3, hw⟩ := wp_ck hw
  obtain ⟨c4, hw⟩ := wp_ck hw
  refine G_ialoadK (k := 10) dX11_readsWatcher_7 c3 (by decide) rfl c4 ?_
  refine G_iadd dX11_readsWatcher_8 ?_
  refine G.topi fun v5 ev5 => ?_
  have hw := wp_bd hw v5 ev5
  refine G_istore_n (lv' := [some (.ref l0), some (.int v5)]) dX11_readsWatcher_9 (Nat.le_of_ble_eq_true rfl) rfl ?_
  refine G_iload_n dX11_readsWatcher_10 rfl ?_
  refine G_bipush (v := (8 : Int32)) dX11_readsWatcher_11 (by decide) ?_
  have hw := wp_if hw
  refine G_icmp_ne (tgt := 22) dX11_readsWatcher_13 rfl (fun c6 => ?_) (fun c6 => ?_)
  · have hw := hw.2 c6
    refine G_aload_n dX11_readsWatcher_22 rfl ?_
    refine G_callV (As := []) (s_X11_nextToken hs l0 h _ (wp_cl hw)) ca_X11_nextToken w_1616 w_46 (ci := 10) rfl (by decide) w_1614 c1 (Nat.le_of_ble_eq_true rfl) (Nat.le_of_ble_eq_true rfl) rfl (Nat.le_of_ble_eq_true rfl) (Nat.le_of_ble_eq_true rfl) (Nat.le_of_ble_eq_true rfl) dX11_readsWatcher_23 rfl (fun v h8 hq => ?_)
    obtain ⟨rfl, hw⟩ := hq
    refine G.cse (cs' := (0, 0)) rfl ?_
    show GZ _ _ _ _ _ _ _ 26 _ [] _ _
    refine G_aload_n dX11_readsWatcher_26 rfl ?_
    obtain ⟨c11, hw⟩ := wp_ck hw
    refine G_callV (As := []) (s_X11_needsNew hs l0 h8 _ (wp_cl hw)) ca_X11_needsNew w_1639 w_51 (ci := 10) rfl (by decide) w_1637 c11 (Nat.le_of_ble_eq_true rfl) (Nat.le_of_ble_eq_true rfl) rfl (Nat.le_of_ble_eq_true rfl) (Nat.le_of_ble_eq_true rfl) (Nat.le_of_ble_eq_true rfl) dX11_readsWatcher_27 rfl (fun v h10 hq => ?_)
    obtain ⟨r9, rfl, hw⟩ := hq
    refine G.cse (cs' := (0, 0)) rfl ?_
    show GZ _ _ _ _ _ _ _ 30 _ (.int r9 :: []) _ _
    have hw := wp_if hw
    refine G_if_eq (tgt := 43) dX11_readsWatcher_30 rfl (fun c12 => ?_) (fun c12 => ?_)
    · have hw := hw.1 c12
      refine G_iconst (v := (0 : Int32)) dX11_readsWatcher_43 (by decide) ?_
      exact G_zreturn rfl dX11_readsWatcher_44 rfl ⟨_, rfl, wp_ret hw⟩
    · have hw := hw.2 c12
      refine G_aload_n dX11_readsWatcher_33 rfl ?_
      refine G_ldc2 (v := (377776 : Int64)) dX11_readsWatcher_34 w_1655 ?_
      obtain ⟨c15, hw⟩ := wp_ck hw
      refine G_callV (As := [.long (377776 : Int64)]) (s_X11_needsWord hs l0 (377776 : Int64) h10 _ (wp_cl hw)) ca_X11_needsWord w_1679 w_55 (ci := 10) rfl (by decide) w_1677 c15 (Nat.le_of_ble_eq_true rfl) (Nat.le_of_ble_eq_true rfl) rfl (Nat.le_of_ble_eq_true rfl) (Nat.le_of_ble_eq_true rfl) (Nat.le_of_ble_eq_true rfl) dX11_readsWatcher_37 rfl (fun v h14 hq => ?_)
      obtain ⟨r13, rfl, hw⟩ := hq
      refine G.cse (cs' := (0, 0)) rfl ?_
      show GZ _ _ _ _ _ _ _ 40 _ (.int r13 :: []) _ _
      have hw := wp_if hw
      refine G_if_ne (tgt := 45) dX11_readsWatcher_40 rfl (fun c16 => ?_) (fun c16 => ?_)
      · have hw := hw.2 c16
        refine G_aload_n dX11_readsWatcher_45 rfl ?_
        obtain ⟨c17, hw⟩ := wp_ck hw
        refine G_getR fl_X11_sight w_1411 dX11_readsWatcher_46 c17 ?_
        obtain ⟨a18, ea18, hw⟩ := wp_rq hw
        refine G.sure ea18 ?_
        refine G_iload_n dX11_readsWatcher_49 rfl ?_
        refine G_aload_n dX11_readsWatcher_50 rfl ?_
        refine G_ldc2 (v := (79958 : Int64)) dX11_readsWatcher_51 w_1645 ?_
        refine G_callV (As := [.long (79958 : Int64)]) (s_X11_isWord hs l0 (79958 : Int64) h14 _ (wp_cl hw)) ca_X11_isWord w_1627 w_48 (ci := 10) rfl (by decide) w_1625 c17 (Nat.le_of_ble_eq_true rfl) (Nat.le_of_ble_eq_true rfl) rfl (Nat.le_of_ble_eq_true rfl) (Nat.le_of_ble_eq_true rfl) (Nat.le_of_ble_eq_true rfl) dX11_readsWatcher_54 rfl (fun v h20 hq => ?_)
        obtain ⟨r19, rfl, hw⟩ := hq
        refine G.cse (cs' := (0, 0)) rfl ?_
        show GZ _ _ _ _ _ _ _ 57 _ (.int r19 :: [.int v5, .ref a18]) _ _
        have hw := wp_if hw
        refine G_if_eq (tgt := 64) dX11_readsWatcher_57 rfl (fun c21 => ?_) (fun c21 => ?_)
        · have hw := hw.1 c21
          refine G_aload_n dX11_readsWatcher_64 rfl ?_
          refine G_ldc2 (v := (10553888 : Int64)) dX11_readsWatcher_65 w_1646 ?_
          obtain ⟨c24, hw⟩ := wp_ck hw
          refine G_callV (As := [.long (10553888 : Int64)]) (s_X11_isWord hs l0 (10553888 : Int64) h20 _ (wp_cl hw)) ca_X11_isWord w_1627 w_48 (ci := 10) rfl (by decide) w_1625 c24 (Nat.le_of_ble_eq_true rfl) (Nat.le_of_ble_eq_true rfl) rfl (Nat.le_of_ble_eq_true rfl) (Nat.le_of_ble_eq_true rfl) (Nat.le_of_ble_eq_true rfl) dX11_readsWatcher_68 rfl (fun v h23 hq => ?_)
          obtain ⟨r22, rfl, hw⟩ := hq
          refine G.cse (cs' := (0, 0)) rfl ?_
          show GZ _ _ _ _ _ _ _ 71 _ (.int r22 :: [.int v5, .ref a18]) _ _
          have hw := wp_if hw
          refine G_if_eq (tgt := 78) dX11_readsWatcher_71 rfl (fun c25 => ?_) (fun c25 => ?_)
          · have hw := hw.1 c25
            refine G_aload_n dX11_readsWatcher_78 rfl ?_
            refine G_ldc2 (v := (50849 : Int64)) dX11_readsWatcher_79 w_1656 ?_
            obtain ⟨c28, hw⟩ := wp_ck hw
            refine G_callV (As := [.long (50849 : Int64)]) (s_X11_isWord hs l0 (50849 : Int64) h23 _ (wp_cl hw)) ca_X11_isWord w_1627 w_48 (ci := 10) rfl (by decide) w_1625 c28 (Nat.le_of_ble_eq_true rfl) (Nat.le_of_ble_eq_true rfl) rfl (Nat.le_of_ble_eq_true rfl) (Nat.le_of_ble_eq_true rfl) (Nat.le_of_ble_eq_true rfl) dX11_readsWatcher_82 rfl (fun v h27 hq => ?_)
            obtain ⟨r26, rfl, hw⟩ := hq
            refine G.cse (cs' := (0, 0)) rfl ?_
            show GZ _ _ _ _ _ _ _ 85 _ (.int r26 :: [.int v5, .ref a18]) _ _
            have hw := wp_if hw
            refine G_if_eq (tgt := 92) dX11_readsWatcher_85 rfl (fun c29 => ?_) (fun c29 => ?_)
            · have hw := hw.1 c29
              refine G_iconst (v := (-1 : Int32)) dX11_readsWatcher_92 (by decide) ?_
              refine G.less [some (.ref l0), some (.int v5)] ⟨rfl, ⟨rfl, trivial⟩⟩ ?_
              exact f_X11_readsWatcher_93_ok hs _ _ _ _ _ h27 Q hw
            · have hw := hw.2 c29
              refine G_iconst (v := (2 : Int32)) dX11_readsWatcher_88 (by decide) ?_
              refine G_goto (tgt := 93) dX11_readsWatcher_89 rfl ?_
              refine G.less [some (.ref l0), some (.int v5)] ⟨rfl, ⟨rfl, trivial⟩⟩ ?_
              exact f_X11_readsWatcher_93_ok hs _ _ _ _ _ h27 Q hw
          · have hw := hw.2 c25
            refine G_iconst (v := (1 : Int32)) dX11_readsWatcher_74 (by decide) ?_
            refine G_goto (tgt := 93) dX11_readsWatcher_75 rfl ?_
            refine G.less [some (.ref l0), some (.int v5)] ⟨rfl, ⟨rfl, trivial⟩⟩ ?_
            exact f_X11_readsWatcher_93_ok hs _ _ _ _ _ h23 Q hw
        · have hw := hw.2 c21
          refine G_iconst (v := (0 : Int32)) dX11_readsWatcher_60 (by decide) ?_
          refine G_goto (tgt := 93) dX11_readsWatcher_61 rfl ?_
          refine G.less [some (.ref l0), some (.int v5)] ⟨rfl, ⟨rfl, trivial⟩⟩ ?_
          exact f_X11_readsWatcher_93_ok hs _ _ _ _ _ h20 Q hw
      · have hw := hw.1 c16
        refine G_iconst (v := (0 : Int32)) dX11_readsWatcher_43 (by decide) ?_
        exact G_zreturn rfl dX11_readsWatcher_44 rfl ⟨_, rfl, wp_ret hw⟩
  · have hw := hw.1 c6
    refine G_aload_n dX11_readsWatcher_16 rfl ?_
    refine G_iconst (v := (5 : Int32)) dX11_readsWatcher_17 (by decide) ?_
    refine G_callV (As := [.int (5 : Int32)]) (s_X11_fails hs l0 (5 : Int32) h _ (wp_cl hw)) ca_X11_fails w_1635 w_50 (ci := 10) rfl (by decide) w_1633 c1 (Nat.le_of_ble_eq_true rfl) (Nat.le_of_ble_eq_true rfl) rfl (Nat.le_of_ble_eq_true rfl) (Nat.le_of_ble_eq_true rfl) (Nat.le_of_ble_eq_true rfl) dX11_readsWatcher_18 rfl (fun v h31 hq => ?_)
    obtain ⟨r30, rfl, hw⟩ := hq
    refine G.cse (cs' := (0, 0)) rfl ?_
    show GZ _ _ _ _ _ _ _ 21 _ (.int r30 :: []) _ _
    obtain ⟨c32, hw⟩ := wp_ck hw
    exact G_zreturn rfl dX11_readsWatcher_21 (g_nb c32) ⟨_, rfl, wp_ret hw⟩
set_option maxHeartbeats 4000000 in
set_option maxRecDepth 100000 in
theorem f_X11_readsWinds_35_ok {Γ : GX} (hs : SF Γ) {N : Nat} {K_22 : Nat → Int32 → PH → Option (Int32 × PH)} (hK_22 : ∀ (l0 : Nat) (l1 : Int32) (h : PH) (Q : Int32 → PH → Prop), wp (K_22 l0 l1 h) Q → G Γ yX11_readsWinds cX11_readsWinds 2 (some .boolean) (4, 0, 0) 22 [some (.ref l0), some (.int l1)] [] h (0, 0) (q_i Q)) (l0 : Nat) (l1 : Int32) (h : PH) (Q : Int32 → PH → Prop) (hw : wp (f_X11_readsWinds_35 N K_22 l0 l1 h) Q) : G Γ yX11_readsWinds cX11_readsWinds 2 (some .boolean) (4, 0, 0) 35 [some (.ref l0), some (.int l1)] [] h (0, 0) (q_i Q) := by
  unfold f_X11_readsWinds_35 at hw
  refine G_aload_n dX11_readsWinds_35 rfl ?_
  obtain ⟨c1, hw⟩ := wp_ck hw
  refine G_getI fl_X11_token w_1399 dX11_readsWinds_36 c1 ?_
  refine G_iconst (v := (2 : Int32)) dX11_readsWinds_39 (by decide) ?_
  have hw := wp_if hw
  refine G_icmp_eq (tgt := 49) dX11_readsWinds_40 rfl (fun c2 => ?_) (fun c2 => ?_)
  · have hw := hw.1 c2
    refine G_aload_n dX11_readsWinds_49 rfl ?_
    refine G_getI fl_X11_told w_1401 dX11_readsWinds_50 c1 ?_
    refine G_bipush (v := (9 : Int32)) dX11_readsWinds_53 (by decide) ?_
    have hw := wp_if hw
    refine G_icmp_le (tgt := 64) dX11_readsWinds_55 rfl (fun c3 => ?_) (fun c3 => ?_)
    · have hw := hw.1 c3
      refine G_iload_n dX11_readsWinds_64 rfl ?_
      refine G_bipush (v := (12 : Int32)) dX11_readsWinds_65 (by decide) ?_
      have hw := wp_if hw
      refine G_icmp_ne (tgt := 76) dX11_readsWinds_67 rfl (fun c4 => ?_) (fun c4 => ?_)
      · have hw := hw.2 c4
        refine G_aload_n dX11_readsWinds_76 rfl ?_
        refine G_getR fl_X11_wind w_1412 dX11_readsWinds_77 c1 ?_
        obtain ⟨a5, ea5, hw⟩ := wp_rq hw
        refine G.sure ea5 ?_
        refine G_bipush (v := (12 : Int32)) dX11_readsWinds_80 (by decide) ?_
        refine G_iload_n dX11_readsWinds_82 rfl ?_
        refine G_iadd dX11_readsWinds_83 ?_
        refine G_aload_n dX11_readsWinds_84 rfl ?_
        refine G_getI fl_X11_told w_1401 dX11_readsWinds_85 c1 ?_
        obtain ⟨c6, hw⟩ := wp_ck hw
        obtain ⟨c7, hw⟩ := wp_ck hw
        refine G_iastore dX11_readsWinds_88 c6 c7 ?_
        refine G.nmh fun h8 eh8 => ?_
        have hw := wp_bd hw h8 eh8
        obtain ⟨v9, ev9⟩ : ∃ z : Int32, z = l1 + (1 : Int32) := ⟨_, rfl⟩
        have hw := wp_bd hw v9 ev9
        refine G_iinc (v := v9) (lv' := [some (.ref l0), some (.int v9)]) dX11_readsWinds_89 rfl (by rw [ev9]; rfl) (Nat.le_of_ble_eq_true rfl) rfl ?_
        refine G_aload_n dX11_readsWinds_92 rfl ?_
        obtain ⟨c12, hw⟩ := wp_ck hw
        refine G_callV (As := []) (s_X11_nextToken hs l0 h8 _ (wp_cl hw)) ca_X11_nextToken w_1616 w_46 (ci := 10) rfl (by decide) w_1614 c12 (Nat.le_of_ble_eq_true rfl) (Nat.le_of_ble_eq_true rfl) rfl (Nat.le_of_ble_eq_true rfl) (Nat.le_of_ble_eq_true rfl) (Nat.le_of_ble_eq_true rfl) dX11_readsWinds_93 rfl (fun v h11 hq => ?_)
        obtain ⟨rfl, hw⟩ := hq
        refine G.cse (cs' := (0, 0)) rfl ?_
        show GZ _ _ _ _ _ _ _ 96 _ [] _ _
        refine G_goto (tgt := 22) dX11_readsWinds_96 rfl ?_
        refine G.less [some (.ref l0), some (.int v9)] ⟨rfl, ⟨rfl, trivial⟩⟩ ?_
        exact hK_22 _ _ h11 Q hw
      · have hw := hw.1 c4
        refine G_aload_n dX11_readsWinds_70 rfl ?_
        refine G_iconst (v := (5 : Int32)) dX11_readsWinds_71 (by decide) ?_
        refine G_callV (As := [.int (5 : Int32)]) (s_X11_fails hs l0 (5 : Int32) h _ (wp_cl hw)) ca_X11_fails w_1635 w_50 (ci := 10) rfl (by decide) w_1633 c1 (Nat.le_of_ble_eq_true rfl) (Nat.le_of_ble_eq_true rfl) rfl (Nat.le_of_ble_eq_true rfl) (Nat.le_of_ble_eq_true rfl) (Nat.le_of_ble_eq_true rfl) dX11_readsWinds_72 rfl (fun v h14 hq => ?_)
        obtain ⟨r13, rfl, hw⟩ := hq
        refine G.cse (cs' := (0, 0)) rfl ?_
        show GZ _ _ _ _ _ _ _ 75 _ (.int r13 :: []) _ _
        obtain ⟨c15, hw⟩ := wp_ck hw
        exact G_zreturn rfl dX11_readsWinds_75 (g_nb c15) ⟨_, rfl, wp_ret hw⟩
    · have hw := hw.2 c3
      refine G_aload_n dX11_readsWinds_58 rfl ?_
      refine G_iconst (v := (4 : Int32)) dX11_readsWinds_59 (by decide) ?_
      refine G_callV (As := [.int (4 : Int32)]) (s_X11_fails hs l0 (4 : Int32) h _ (wp_cl hw)) ca_X11_fails w_1635 w_50 (ci := 10) rfl (by decide) w_1633 c1 (Nat.le_of_ble_eq_true rfl) (Nat.le_of_ble_eq_true rfl) rfl (Nat.le_of_ble_eq_true rfl) (Nat.le_of_ble_eq_true rfl) (Nat.le_of_ble_eq_true rfl) dX11_readsWinds_60 rfl (fun v h17 hq => ?_)
      obtain ⟨r16, rfl, hw⟩ := hq
      refine G.cse (cs' := (0, 0)) rfl ?_
      show GZ _ _ _ _ _ _ _ 63 _ (.int r16 :: []) _ _
      obtain ⟨c18, hw⟩ := wp_ck hw
      exact G_zreturn rfl dX11_readsWinds_63 (g_nb c18) ⟨_, rfl, wp_ret hw⟩
  · have hw := hw.2 c2
    refine G_aload_n dX11_readsWinds_43 rfl ?_
    refine G_iconst (v := (1 : Int32)) dX11_readsWinds_44 (by decide) ?_
    refine G_callV (As := [.int (1 : Int32)]) (s_X11_fails hs l0 (1 : Int32) h _ (wp_cl hw)) ca_X11_fails w_1635 w_50 (ci := 10) rfl (by decide) w_1633 c1 (Nat.le_of_ble_eq_true rfl) (Nat.le_of_ble_eq_true rfl) rfl (Nat.le_of_ble_eq_true rfl) (Nat.le_of_ble_eq_true rfl) (Nat.le_of_ble_eq_true rfl) dX11_readsWinds_45 rfl (fun v h20 hq => ?_)
    obtain ⟨r19, rfl, hw⟩ := hq
    refine G.cse (cs' := (0, 0)) rfl ?_
    show GZ _ _ _ _ _ _ _ 48 _ (.int r19 :: []) _ _
    obtain ⟨c21, hw⟩ := wp_ck hw
    exact G_zreturn rfl dX11_readsWinds_48 (g_nb c21) ⟨_, rfl, wp_ret hw⟩
set_option maxHeartbeats 4000000 in
set_option maxRecDepth 100000 in
theorem f_X11_readsWinds_22_bok {Γ : GX} (hs : SF Γ) {N : Nat} {K_22 : Nat → Int32 → PH → Option (Int32 × PH)} (hK_22 : ∀ (l0 : Nat) (l1 : Int32) (h : PH) (Q : Int32 → PH → Prop), wp (K_22 l0 l1 h) Q → G Γ yX11_readsWinds cX11_readsWinds 2 (some .boolean) (4, 0, 0) 22 [some (.ref l0), some (.int l1)] [] h (0, 0) (q_i Q)) (l0 : Nat) (l1 : Int32) (h : PH) (Q : Int32 → PH → Prop) (hw : wp (f_X11_readsWinds_22_b N K_22 l0 l1 h) Q) : G Γ yX11_readsWinds cX11_readsWinds 2 (some .boolean) (4, 0, 0) 22 [some (.ref l0), some (.int l1)] [] h (0, 0) (q_i Q) := by
  unfold f_X11_readsWinds_22_b at hw
  refine G_iload_n dX11_readsWinds_22 rfl ?_
  have hw := wp_if hw
  refine G_if_eq (tgt := 35) dX11_readsWinds_23 rfl (fun c1 => ?_) (fun c1 => ?_)
  · have hw := hw.1 c1
    refine G.less [some (.ref l0), some (.int l1)] ⟨rfl, ⟨rfl, trivial⟩⟩ ?_
    exact f_X11_readsWinds_35_ok hs hK_22 _ _ h Q hw
  · have hw := hw.2 c1
    refine G_aload_n dX11_readsWinds_26 rfl ?_
    refine G_bipush (v := (59 : Int32)) dX11_readsWinds_27 (by decide) ?_
    obtain ⟨c4, hw⟩ := wp_ck hw
    refine G_callV (As := [.int (59 : Int32)]) (s_X11_isSign hs l0 (59 : Int32) h _ (wp_cl hw)) ca_X11_isSign w_1698 w_59 (ci := 10) rfl (by decide) w_1696 c4 (Nat.le_of_ble_eq_true rfl) (Nat.le_of_ble_eq_true rfl) rfl (Nat.le_of_ble_eq_true rfl) (Nat.le_of_ble_eq_true rfl) (Nat.le_of_ble_eq_true rfl) dX11_readsWinds_29 rfl (fun v h3 hq => ?_)
    obtain ⟨r2, rfl, hw⟩ := hq
    refine G.cse (cs' := (0, 0)) rfl ?_
    show GZ _ _ _ _ _ _ _ 32 _ (.int r2 :: []) _ _
    have hw := wp_if hw
    refine G_if_ne (tgt := 99) dX11_readsWinds_32 rfl (fun c5 => ?_) (fun c5 => ?_)
    · have hw := hw.2 c5
      refine G_aload_n dX11_readsWinds_99 rfl ?_
      obtain ⟨c6, hw⟩ := wp_ck hw
      refine G_getR fl_X11_valley w_1403 dX11_readsWinds_100 c6 ?_
      obtain ⟨a7, ea7, hw⟩ := wp_rq hw
      refine G.sure ea7 ?_
      refine G_bipush (v := (11 : Int32)) dX11_readsWinds_103 (by decide) ?_
      refine G_iload_n dX11_readsWinds_105 rfl ?_
      obtain ⟨c8, hw⟩ := wp_ck hw
      obtain ⟨c9, hw⟩ := wp_ck hw
      refine G_iastoreK (k := 11) dX11_readsWinds_106 c8 (by decide) rfl c9 ?_
      refine G.nmh fun h10 eh10 => ?_
      have hw := wp_bd hw h10 eh10
      refine G_aload_n dX11_readsWinds_107 rfl ?_
      obtain ⟨c13, hw⟩ := wp_ck hw
      refine G_callV (As := []) (s_X11_closes hs l0 h10 _ (wp_cl hw)) ca_X11_closes w_1694 w_58 (ci := 10) rfl (by decide) w_1692 c13 (Nat.le_of_ble_eq_true rfl) (Nat.le_of_ble_eq_true rfl) rfl (Nat.le_of_ble_eq_true rfl) (Nat.le_of_ble_eq_true rfl) (Nat.le_of_ble_eq_true rfl) dX11_readsWinds_108 rfl (fun v h12 hq => ?_)
      obtain ⟨r11, rfl, hw⟩ := hq
      refine G.cse (cs' := (0, 0)) rfl ?_
      show GZ _ _ _ _ _ _ _ 111 _ (.int r11 :: []) _ _
      obtain ⟨c14, hw⟩ := wp_ck hw
      exact G_zreturn rfl dX11_readsWinds_111 (g_nb c14) ⟨_, rfl, wp_ret hw⟩
    · have hw := hw.1 c5
      refine G.less [some (.ref l0), some (.int l1)] ⟨rfl, ⟨rfl, trivial⟩⟩ ?_
      exact f_X11_readsWinds_35_ok hs hK_22 _ _ h3 Q hw
theorem f_X11_readsWinds_22_ok {Γ : GX} (hs : SF Γ) {N : Nat} : ∀ (n : Nat) (l0 : Nat) (l1 : Int32) (h : PH) (Q : Int32 → PH → Prop), wp (f_X11_readsWinds_22 N n l0 l1 h) Q → G Γ yX11_readsWinds cX11_readsWinds 2 (some .boolean) (4, 0, 0) 22 [some (.ref l0), some (.int l1)] [] h (0, 0) (q_i Q)
  | 0, _, _, _, Q, hw => (wp_no hw).elim
  | n + 1, l0, l1, h, Q, hw => f_X11_readsWinds_22_bok (N := N) hs (f_X11_readsWinds_22_ok (N := N) hs n) l0 l1 h Q hw
set_option maxHeartbeats 4000000 in
set_option maxRecDepth 100000 in
theorem s_X11_readsWinds {Γ : GX} (hs : SF Γ) {N : Nat} (l0 : Nat) (h : PH) (Q : Int32 → PH → Prop) (hw : wp (f_X11_readsWinds N l0 h) Q) : Spec Γ yX11_readsWinds cX11_readsWinds 2 (some .boolean) (4, 0, 0) [.ref l0] h (q_i Q) := by
  refine Spec.of (by decide) (Nat.le_of_ble_eq_true rfl) [some (.ref l0), none] rfl ?_
  unfold f_X11_readsWinds at hw
  refine G_aload_n dX11_readsWinds_0 rfl ?_
  obtain ⟨c1, hw⟩ := wp_ck hw
  refine G_getR fl_X11_valley w_1403 dX11_readsWinds_1 c1 ?_
  obtain ⟨a2, ea2, hw⟩ := wp_rq hw
  refine G.sure ea2 ?_
  refine G_bipush (v := (11 : Int32)) dX11_readsWinds_4 (by decide) ?_
  obtain ⟨c3, hw⟩ := wp_ck hw
  obtain ⟨c4, hw⟩ := wp_ck hw
  refine G_ialoadK (k := 11) dX11_readsWinds_6 c3 (by decide) rfl c4 ?_
  have hw := wp_if hw
  refine G_if_le (tgt := 16) dX11_readsWinds_7 rfl (fun c5 => ?_) (fun c5 => ?_)
  · have hw := hw.1 c5
    refine G_aload_n dX11_readsWinds_16 rfl ?_
    refine G_callV (As := []) (s_X11_nextToken hs l0 h _ (wp_cl hw)) ca_X11_nextToken w_1616 w_46 (ci := 10) rfl (by decide) w_1614 c1 (Nat.le_of_ble_eq_true rfl) (Nat.le_of_ble_eq_true rfl) rfl (Nat.le_of_ble_eq_true rfl) (Nat.le_of_ble_eq_true rfl) (Nat.le_of_ble_eq_true rfl) dX11_readsWinds_17 rfl (fun v h7 hq => ?_)
    obtain ⟨rfl, hw⟩ := hq
    refine G.cse (cs' := (0, 0)) rfl ?_
    show GZ _ _ _ _ _ _ _ 20 _ [] _ _
    refine G_iconst (v := (0 : Int32)) dX11_readsWinds_20 (by decide) ?_
    refine G_istore_n (lv' := [some (.ref l0), some (.int (0 : Int32))]) dX11_readsWinds_21 (Nat.le_of_ble_eq_true rfl) rfl ?_
    refine G.less [some (.ref l0), some (.int (0 : Int32))] ⟨rfl, ⟨rfl, trivial⟩⟩ ?_
    exact f_X11_readsWinds_22_ok hs N _ _ h7 Q hw
  · have hw := hw.2 c5
    refine G_aload_n dX11_readsWinds_10 rfl ?_
    refine G_iconst (v := (3 : Int32)) dX11_readsWinds_11 (by decide) ?_
    refine G_callV (As := [.int (3 : Int32)]) (s_X11_fails hs l0 (3 : Int32) h _ (wp_cl hw)) ca_X11_fails w_1635 w_50 (ci := 10) rfl (by decide) w_1633 c1 (Nat.le_of_ble_eq_true rfl) (Nat.le_of_ble_eq_true rfl) rfl (Nat.le_of_ble_eq_true rfl) (Nat.le_of_ble_eq_true rfl) (Nat.le_of_ble_eq_true rfl) dX11_readsWinds_12 rfl (fun v h9 hq => ?_)
    obtain ⟨r8, rfl, hw⟩ := hq
    refine G.cse (cs' := (0, 0)) rfl ?_
    show GZ _ _ _ _ _ _ _ 15 _ (.int r8 :: []) _ _
    obtain ⟨c10, hw⟩ := wp_ck hw
    exact G_zreturn rfl dX11_readsWinds_15 (g_nb c10) ⟨_, rfl, wp_ret hw⟩
set_option maxHeartbeats 4000000 in
set_option maxRecDepth 100000 in
theorem s_X11_readsLaw {Γ : GX} (hs : SF Γ) {N : Nat} (l0 : Nat) (l1 : Int32) (h : PH) (Q : Int32 → PH → Prop) (hw : wp (f_X11_readsLaw N l0 l1 h) Q) : Spec Γ yX11_readsLaw cX11_readsLaw 2 (some .boolean) (4, 0, 0) [.ref l0, .int l1] h (q_i Q) := by
  refine Spec.of (by decide) (Nat.le_of_ble_eq_true rfl) [some (.ref l0), some (.int l1)] rfl ?_
  unfold f_X11_readsLaw at hw
  refine G_aload_n dX11_readsLaw_0 rfl ?_
  obtain ⟨c1, hw⟩ := wp_ck hw
  refine G_getR fl_X11_lineTo w_1414 dX11_readsLaw_1 c1 ?_
  obtain ⟨a2, ea2, hw⟩ := wp_rq hw
  refine G.sure ea2 ?_
  refine G_iconst (v := (2 : Int32)) dX11_readsLaw_4 (by decide) ?_
  refine G_iload_n dX11_readsLaw_5 rfl ?_
  refine G_iadd dX11_readsLaw_6 ?_
  obtain ⟨c3, hw⟩ := wp_ck hw
  obtain ⟨c4, hw⟩ := wp_ck hw
  refine G_iaload dX11_readsLaw_7 c3 c4 ?_
  refine G_aload_n dX11_readsLaw_8 rfl ?_
  refine G_getR fl_X11_lineFrom w_1413 dX11_readsLaw_9 c1 ?_
  obtain ⟨a5, ea5, hw⟩ := wp_rq hw
  refine G.sure ea5 ?_
  refine G_iconst (v := (2 : Int32)) dX11_readsLaw_12 (by decide) ?_
  refine G_iload_n dX11_readsLaw_13 rfl ?_
  refine G_iadd dX11_readsLaw_14 ?_
  obtain ⟨c6, hw⟩ := wp_ck hw
  obtain ⟨c7, hw⟩ := wp_ck hw
  refine G_iaload dX11_readsLaw_15 c6 c7 ?_
  have hw := wp_if hw
  refine G_icmp_le (tgt := 25) dX11_readsLaw_16 rfl (fun c8 => ?_) (fun c8 => ?_)
  · have hw := hw.1 c8
    refine G_aload_n dX11_readsLaw_25 rfl ?_
    refine G_iload_n dX11_readsLaw_26 rfl ?_
    refine G_putI fl_X11_lawLine w_1417 dX11_readsLaw_27 c1 ?_
    refine G.nmh fun h9 eh9 => ?_
    have hw := wp_bd hw h9 eh9
    refine G_aload_n dX11_readsLaw_30 rfl ?_
    obtain ⟨c12, hw⟩ := wp_ck hw
    refine G_callV (As := []) (s_X11_nextToken hs l0 h9 _ (wp_cl hw)) ca_X11_nextToken w_1616 w_46 (ci := 10) rfl (by decide) w_1614 c12 (Nat.le_of_ble_eq_true rfl) (Nat.le_of_ble_eq_true rfl) rfl (Nat.le_of_ble_eq_true rfl) (Nat.le_of_ble_eq_true rfl) (Nat.le_of_ble_eq_true rfl) dX11_readsLaw_31 rfl (fun v h11 hq => ?_)
    obtain ⟨rfl, hw⟩ := hq
    refine G.cse (cs' := (0, 0)) rfl ?_
    show GZ _ _ _ _ _ _ _ 34 _ [] _ _
    refine G_aload_n dX11_readsLaw_34 rfl ?_
    obtain ⟨c13, hw⟩ := wp_ck hw
    refine G_getR fl_X11_lineFrom w_1413 dX11_readsLaw_35 c13 ?_
    obtain ⟨a14, ea14, hw⟩ := wp_rq hw
    refine G.sure ea14 ?_
    refine G_iconst (v := (2 : Int32)) dX11_readsLaw_38 (by decide) ?_
    refine G_iload_n dX11_readsLaw_39 rfl ?_
    refine G_iadd dX11_readsLaw_40 ?_
    refine G_aload_n dX11_readsLaw_41 rfl ?_
    refine G_getI fl_X11_code w_1416 dX11_readsLaw_42 c13 ?_
    obtain ⟨c15, hw⟩ := wp_ck hw
    obtain ⟨c16, hw⟩ := wp_ck hw
    refine G_iastore dX11_readsLaw_45 c15 c16 ?_
    refine G.nmh fun h17 eh17 => ?_
    have hw := wp_bd hw h17 eh17
    refine G_aload_n dX11_readsLaw_46 rfl ?_
    obtain ⟨c20, hw⟩ := wp_ck hw
    refine G_callV (As := []) (s_X11_reads hs l0 h17 _ (wp_cl hw)) ca_X11_reads w_1738 w_69 (ci := 10) rfl (by decide) w_1736 c20 (Nat.le_of_ble_eq_true rfl) (Nat.le_of_ble_eq_true rfl) rfl (Nat.le_of_ble_eq_true rfl) (Nat.le_of_ble_eq_true rfl) (Nat.le_of_ble_eq_true rfl) dX11_readsLaw_47 rfl (fun v h19 hq => ?_)
    obtain ⟨r18, rfl, hw⟩ := hq
    refine G.cse (cs' := (0, 0)) rfl ?_
    show GZ _ _ _ _ _ _ _ 50 _ (.int r18 :: []) _ _
    have hw := wp_if hw
    refine G_if_ne (tgt := 55) dX11_readsLaw_50 rfl (fun c21 => ?_) (fun c21 => ?_)
    · have hw := hw.2 c21
      refine G_aload_n dX11_readsLaw_55 rfl ?_
      obtain ⟨c22, hw⟩ := wp_ck hw
      refine G_getR fl_X11_lineTo w_1414 dX11_readsLaw_56 c22 ?_
      obtain ⟨a23, ea23, hw⟩ := wp_rq hw
      refine G.sure ea23 ?_
      refine G_iconst (v := (2 : Int32)) dX11_readsLaw_59 (by decide) ?_
      refine G_iload_n dX11_readsLaw_60 rfl ?_
      refine G_iadd dX11_readsLaw_61 ?_
      refine G_aload_n dX11_readsLaw_62 rfl ?_
      refine G_getI fl_X11_code w_1416 dX11_readsLaw_63 c22 ?_
      obtain ⟨c24, hw⟩ := wp_ck hw
      obtain ⟨c25, hw⟩ := wp_ck hw
      refine G_iastore dX11_readsLaw_66 c24 c25 ?_
      refine G.nmh fun h26 eh26 => ?_
      have hw := wp_bd hw h26 eh26
      refine G_iconst (v := (1 : Int32)) dX11_readsLaw_67 (by decide) ?_
      exact G_zreturn rfl dX11_readsLaw_68 rfl ⟨_, rfl, wp_ret hw⟩
    · have hw := hw.1 c21
      refine G_iconst (v := (0 : Int32)) dX11_readsLaw_53 (by decide) ?_
      exact G_zreturn rfl dX11_readsLaw_54 rfl ⟨_, rfl, wp_ret hw⟩
  · have hw := hw.2 c8
    refine G_aload_n dX11_readsLaw_19 rfl ?_
    refine G_iconst (v := (3 : Int32)) dX11_readsLaw_20 (by decide) ?_
    refine G_callV (As := [.int (3 : Int32)]) (s_X11_fails hs l0 (3 : Int32) h _ (wp_cl hw)) ca_X11_fails w_1635 w_50 (ci := 10) rfl (by decide) w_1633 c1 (Nat.le_of_ble_eq_true rfl) (Nat.le_of_ble_eq_true rfl) rfl (Nat.le_of_ble_eq_true rfl) (Nat.le_of_ble_eq_true rfl) (Nat.le_of_ble_eq_true rfl) dX11_readsLaw_21 rfl (fun v h28 hq => ?_)
    obtain ⟨r27, rfl, hw⟩ := hq
    refine G.cse (cs' := (0, 0)) rfl ?_
    show GZ _ _ _ _ _ _ _ 24 _ (.int r27 :: []) _ _
    obtain ⟨c29, hw⟩ := wp_ck hw
    exact G_zreturn rfl dX11_readsLaw_24 (g_nb c29) ⟨_, rfl, wp_ret hw⟩
set_option maxHeartbeats 4000000 in
set_option maxRecDepth 100000 in
theorem s_X11_begins {Γ : GX} (hs : SF Γ) {N : Nat} (l0 : Nat) (h : PH) (Q : Unit → PH → Prop) (hw : wp (f_X11_begins N l0 h) Q) : Spec Γ yX11_begins cX11_begins 1 none (3, 0, 0) [.ref l0] h (q_u Q) := by
  refine Spec.of (by decide) (Nat.le_of_ble_eq_true rfl) [some (.ref l0)] rfl ?_
  unfold f_X11_begins at hw
  refine G_aload_n dX11_begins_0 rfl ?_
  refine G_aload_n dX11_begins_1 rfl ?_
  obtain ⟨c1, hw⟩ := wp_ck hw
  refine G_getI fl_X11_taped w_1394 dX11_begins_2 c1 ?_
  refine G_putI fl_X11_size w_1396 dX11_begins_5 c1 ?_
  refine G.nmh fun h2 eh2 => ?_
  have hw := wp_bd hw h2 eh2
  refine G_aload_n dX11_begins_8 rfl ?_
  refine G_iconst (v := (0 : Int32)) dX11_begins_9 (by decide) ?_
  obtain ⟨c3, hw⟩ := wp_ck hw
  refine G_putI fl_X11_taped w_1394 dX11_begins_10 c3 ?_
  refine G.nmh fun h4 eh4 => ?_
  have hw := wp_bd hw h4 eh4
  refine G_aload_n dX11_begins_13 rfl ?_
  refine G_iconst (v := (0 : Int32)) dX11_begins_14 (by decide) ?_
  obtain ⟨c5, hw⟩ := wp_ck hw
  refine G_putI fl_X11_place w_1397 dX11_begins_15 c5 ?_
  refine G.nmh fun h6 eh6 => ?_
  have hw := wp_bd hw h6 eh6
  refine G_aload_n dX11_begins_18 rfl ?_
  obtain ⟨c9, hw⟩ := wp_ck hw
  refine G_callV (As := []) (s_X11_nextToken hs l0 h6 _ (wp_cl hw)) ca_X11_nextToken w_1616 w_46 (ci := 10) rfl (by decide) w_1614 c9 (Nat.le_of_ble_eq_true rfl) (Nat.le_of_ble_eq_true rfl) rfl (Nat.le_of_ble_eq_true rfl) (Nat.le_of_ble_eq_true rfl) (Nat.le_of_ble_eq_true rfl) dX11_begins_19 rfl (fun v h8 hq => ?_)
  obtain ⟨rfl, hw⟩ := hq
  refine G.cse (cs' := (0, 0)) rfl ?_
  show GZ _ _ _ _ _ _ _ 22 _ [] _ _
  exact G_vreturn rfl dX11_begins_22 ⟨rfl, wp_ret hw⟩
set_option maxHeartbeats 4000000 in
set_option maxRecDepth 100000 in
theorem f_X11_readsAll_231_ok {Γ : GX} (hs : SF Γ) {N : Nat} {K_64 : Nat → PH → Option (Int32 × PH)} (hK_64 : ∀ (l0 : Nat) (h : PH) (Q : Int32 → PH → Prop), wp (K_64 l0 h) Q → G Γ yX11_readsAll cX11_readsAll 2 (some .boolean) (7, 0, 0) 64 [some (.ref l0), none] [] h (0, 0) (q_i Q)) (s0 : Int32) (l0 : Nat) (h : PH) (Q : Int32 → PH → Prop) (hw : wp (f_X11_readsAll_231 N K_64 s0 l0 h) Q) : G Γ yX11_readsAll cX11_readsAll 2 (some .boolean) (7, 0, 0) 231 [some (.ref l0), none] [.int s0] h (0, 0) (q_i Q) := by
  unfold f_X11_readsAll_231 at hw
  refine G_istore_n (lv' := [some (.ref l0), some (.int s0)]) dX11_readsAll_231 (Nat.le_of_ble_eq_true rfl) rfl ?_
  refine G_iload_n dX11_readsAll_232 rfl ?_
  have hw := wp_if hw
  refine G_if_ne (tgt := 238) dX11_readsAll_233 rfl (fun c1 => ?_) (fun c1 => ?_)
  · have hw := hw.2 c1
    refine G_goto (tgt := 64) dX11_readsAll_238 rfl ?_
    refine G.less [some (.ref l0), none] ⟨rfl, trivial⟩ ?_
    exact hK_64 _ h Q hw
  · have hw := hw.1 c1
    refine G_iconst (v := (0 : Int32)) dX11_readsAll_236 (by decide) ?_
    exact G_zreturn rfl dX11_readsAll_237 rfl ⟨_, rfl, wp_ret hw⟩
set_option maxHeartbeats 4000000 in
set_option maxRecDepth 100000 in
theorem f_X11_readsAll_64_bok {Γ : GX} (hs : SF Γ) {N : Nat} {K_64 : Nat → PH → Option (Int32 × PH)} (hK_64 : ∀ (l0 : Nat) (h : PH) (Q : Int32 → PH → Prop), wp (K_64 l0 h) Q → G Γ yX11_readsAll cX11_readsAll 2 (some .boolean) (7, 0, 0) 64 [some (.ref l0), none] [] h (0, 0) (q_i Q)) (l0 : Nat) (h : PH) (Q : Int32 → PH → Prop) (hw : wp (f_X11_readsAll_64_b N K_64 l0 h) Q) : G Γ yX11_readsAll cX11_readsAll 2 (some .boolean) (7, 0, 0) 64 [some (.ref l0), none] [] h (0, 0) (q_i Q) := by
  unfold f_X11_readsAll_64_b at hw
  refine G_aload_n dX11_readsAll_64 rfl ?_
  obtain ⟨c1, hw⟩ := wp_ck hw
  refine G_getI fl_X11_token w_1399 dX11_readsAll_65 c1 ?_
  have hw := wp_if hw
  refine G_if_eq (tgt := 241) dX11_readsAll_68 rfl (fun c2 => ?_) (fun c2 => ?_)
  · have hw := hw.1 c2
    refine G_iconst (v := (1 : Int32)) dX11_readsAll_241 (by decide) ?_
    exact G_zreturn rfl dX11_readsAll_242 rfl ⟨_, rfl, wp_ret hw⟩
  · have hw := hw.2 c2
    refine G_aload_n dX11_readsAll_71 rfl ?_
    refine G_ldc2 (v := (133554 : Int64)) dX11_readsAll_72 w_1624 ?_
    refine G_callV (As := [.long (133554 : Int64)]) (s_X11_isWord hs l0 (133554 : Int64) h _ (wp_cl hw)) ca_X11_isWord w_1627 w_48 (ci := 10) rfl (by decide) w_1625 c1 (Nat.le_of_ble_eq_true rfl) (Nat.le_of_ble_eq_true rfl) rfl (Nat.le_of_ble_eq_true rfl) (Nat.le_of_ble_eq_true rfl) (Nat.le_of_ble_eq_true rfl) dX11_readsAll_75 rfl (fun v h4 hq => ?_)
    obtain ⟨r3, rfl, hw⟩ := hq
    refine G.cse (cs' := (0, 0)) rfl ?_
    show GZ _ _ _ _ _ _ _ 78 _ (.int r3 :: []) _ _
    have hw := wp_if hw
    refine G_if_eq (tgt := 88) dX11_readsAll_78 rfl (fun c5 => ?_) (fun c5 => ?_)
    · have hw := hw.1 c5
      refine G_aload_n dX11_readsAll_88 rfl ?_
      refine G_ldc2 (v := (127418 : Int64)) dX11_readsAll_89 w_1648 ?_
      obtain ⟨c8, hw⟩ := wp_ck hw
      refine G_callV (As := [.long (127418 : Int64)]) (s_X11_isWord hs l0 (127418 : Int64) h4 _ (wp_cl hw)) ca_X11_isWord w_1627 w_48 (ci := 10) rfl (by decide) w_1625 c8 (Nat.le_of_ble_eq_true rfl) (Nat.le_of_ble_eq_true rfl) rfl (Nat.le_of_ble_eq_true rfl) (Nat.le_of_ble_eq_true rfl) (Nat.le_of_ble_eq_true rfl) dX11_readsAll_92 rfl (fun v h7 hq => ?_)
      obtain ⟨r6, rfl, hw⟩ := hq
      refine G.cse (cs' := (0, 0)) rfl ?_
      show GZ _ _ _ _ _ _ _ 95 _ (.int r6 :: []) _ _
      have hw := wp_if hw
      refine G_if_eq (tgt := 105) dX11_readsAll_95 rfl (fun c9 => ?_) (fun c9 => ?_)
      · have hw := hw.1 c9
        refine G_aload_n dX11_readsAll_105 rfl ?_
        refine G_ldc2 (v := (4562600 : Int64)) dX11_readsAll_106 w_1649 ?_
        obtain ⟨c12, hw⟩ := wp_ck hw
        refine G_callV (As := [.long (4562600 : Int64)]) (s_X11_isWord hs l0 (4562600 : Int64) h7 _ (wp_cl hw)) ca_X11_isWord w_1627 w_48 (ci := 10) rfl (by decide) w_1625 c12 (Nat.le_of_ble_eq_true rfl) (Nat.le_of_ble_eq_true rfl) rfl (Nat.le_of_ble_eq_true rfl) (Nat.le_of_ble_eq_true rfl) (Nat.le_of_ble_eq_true rfl) dX11_readsAll_109 rfl (fun v h11 hq => ?_)
        obtain ⟨r10, rfl, hw⟩ := hq
        refine G.cse (cs' := (0, 0)) rfl ?_
        show GZ _ _ _ _ _ _ _ 112 _ (.int r10 :: []) _ _
        have hw := wp_if hw
        refine G_if_eq (tgt := 122) dX11_readsAll_112 rfl (fun c13 => ?_) (fun c13 => ?_)
        · have hw := hw.1 c13
          refine G_aload_n dX11_readsAll_122 rfl ?_
          refine G_ldc2 (v := (10502066 : Int64)) dX11_readsAll_123 w_1651 ?_
          obtain ⟨c16, hw⟩ := wp_ck hw
          refine G_callV (As := [.long (10502066 : Int64)]) (s_X11_isWord hs l0 (10502066 : Int64) h11 _ (wp_cl hw)) ca_X11_isWord w_1627 w_48 (ci := 10) rfl (by decide) w_1625 c16 (Nat.le_of_ble_eq_true rfl) (Nat.le_of_ble_eq_true rfl) rfl (Nat.le_of_ble_eq_true rfl) (Nat.le_of_ble_eq_true rfl) (Nat.le_of_ble_eq_true rfl) dX11_readsAll_126 rfl (fun v h15 hq => ?_)
          obtain ⟨r14, rfl, hw⟩ := hq
          refine G.cse (cs' := (0, 0)) rfl ?_
          show GZ _ _ _ _ _ _ _ 129 _ (.int r14 :: []) _ _
          have hw := wp_if hw
          refine G_if_eq (tgt := 139) dX11_readsAll_129 rfl (fun c17 => ?_) (fun c17 => ?_)
          · have hw := hw.1 c17
            refine G_aload_n dX11_readsAll_139 rfl ?_
            refine G_ldc2 (v := (380741 : Int64)) dX11_readsAll_140 w_1652 ?_
            obtain ⟨c20, hw⟩ := wp_ck hw
            refine G_callV (As := [.long (380741 : Int64)]) (s_X11_isWord hs l0 (380741 : Int64) h15 _ (wp_cl hw)) ca_X11_isWord w_1627 w_48 (ci := 10) rfl (by decide) w_1625 c20 (Nat.le_of_ble_eq_true rfl) (Nat.le_of_ble_eq_true rfl) rfl (Nat.le_of_ble_eq_true rfl) (Nat.le_of_ble_eq_true rfl) (Nat.le_of_ble_eq_true rfl) dX11_readsAll_143 rfl (fun v h19 hq => ?_)
            obtain ⟨r18, rfl, hw⟩ := hq
            refine G.cse (cs' := (0, 0)) rfl ?_
            show GZ _ _ _ _ _ _ _ 146 _ (.int r18 :: []) _ _
            have hw := wp_if hw
            refine G_if_eq (tgt := 156) dX11_readsAll_146 rfl (fun c21 => ?_) (fun c21 => ?_)
            · have hw := hw.1 c21
              refine G_aload_n dX11_readsAll_156 rfl ?_
              refine G_ldc2 (v := (8935714008 : Int64)) dX11_readsAll_157 w_1654 ?_
              obtain ⟨c24, hw⟩ := wp_ck hw
              refine G_callV (As := [.long (8935714008 : Int64)]) (s_X11_isWord hs l0 (8935714008 : Int64) h19 _ (wp_cl hw)) ca_X11_isWord w_1627 w_48 (ci := 10) rfl (by decide) w_1625 c24 (Nat.le_of_ble_eq_true rfl) (Nat.le_of_ble_eq_true rfl) rfl (Nat.le_of_ble_eq_true rfl) (Nat.le_of_ble_eq_true rfl) (Nat.le_of_ble_eq_true rfl) dX11_readsAll_160 rfl (fun v h23 hq => ?_)
              obtain ⟨r22, rfl, hw⟩ := hq
              refine G.cse (cs' := (0, 0)) rfl ?_
              show GZ _ _ _ _ _ _ _ 163 _ (.int r22 :: []) _ _
              have hw := wp_if hw
              refine G_if_eq (tgt := 173) dX11_readsAll_163 rfl (fun c25 => ?_) (fun c25 => ?_)
              · have hw := hw.1 c25
                refine G_aload_n dX11_readsAll_173 rfl ?_
                refine G_ldc2 (v := (12410623 : Int64)) dX11_readsAll_174 w_1657 ?_
                obtain ⟨c28, hw⟩ := wp_ck hw
                refine G_callV (As := [.long (12410623 : Int64)]) (s_X11_isWord hs l0 (12410623 : Int64) h23 _ (wp_cl hw)) ca_X11_isWord w_1627 w_48 (ci := 10) rfl (by decide) w_1625 c28 (Nat.le_of_ble_eq_true rfl) (Nat.le_of_ble_eq_true rfl) rfl (Nat.le_of_ble_eq_true rfl) (Nat.le_of_ble_eq_true rfl) (Nat.le_of_ble_eq_true rfl) dX11_readsAll_177 rfl (fun v h27 hq => ?_)
                obtain ⟨r26, rfl, hw⟩ := hq
                refine G.cse (cs' := (0, 0)) rfl ?_
                show GZ _ _ _ _ _ _ _ 180 _ (.int r26 :: []) _ _
                have hw := wp_if hw
                refine G_if_eq (tgt := 190) dX11_readsAll_180 rfl (fun c29 => ?_) (fun c29 => ?_)
                · have hw := hw.1 c29
                  refine G_aload_n dX11_readsAll_190 rfl ?_
                  refine G_ldc2 (v := (3913426 : Int64)) dX11_readsAll_191 w_1658 ?_
                  obtain ⟨c32, hw⟩ := wp_ck hw
                  refine G_callV (As := [.long (3913426 : Int64)]) (s_X11_isWord hs l0 (3913426 : Int64) h27 _ (wp_cl hw)) ca_X11_isWord w_1627 w_48 (ci := 10) rfl (by decide) w_1625 c32 (Nat.le_of_ble_eq_true rfl) (Nat.le_of_ble_eq_true rfl) rfl (Nat.le_of_ble_eq_true rfl) (Nat.le_of_ble_eq_true rfl) (Nat.le_of_ble_eq_true rfl) dX11_readsAll_194 rfl (fun v h31 hq => ?_)
                  obtain ⟨r30, rfl, hw⟩ := hq
                  refine G.cse (cs' := (0, 0)) rfl ?_
                  show GZ _ _ _ _ _ _ _ 197 _ (.int r30 :: []) _ _
                  have hw := wp_if hw
                  refine G_if_eq (tgt := 208) dX11_readsAll_197 rfl (fun c33 => ?_) (fun c33 => ?_)
                  · have hw := hw.1 c33
                    refine G_aload_n dX11_readsAll_208 rfl ?_
                    refine G_ldc2 (v := (10404118 : Int64)) dX11_readsAll_209 w_1659 ?_
                    obtain ⟨c36, hw⟩ := wp_ck hw
                    refine G_callV (As := [.long (10404118 : Int64)]) (s_X11_isWord hs l0 (10404118 : Int64) h31 _ (wp_cl hw)) ca_X11_isWord w_1627 w_48 (ci := 10) rfl (by decide) w_1625 c36 (Nat.le_of_ble_eq_true rfl) (Nat.le_of_ble_eq_true rfl) rfl (Nat.le_of_ble_eq_true rfl) (Nat.le_of_ble_eq_true rfl) (Nat.le_of_ble_eq_true rfl) dX11_readsAll_212 rfl (fun v h35 hq => ?_)
                    obtain ⟨r34, rfl, hw⟩ := hq
                    refine G.cse (cs' := (0, 0)) rfl ?_
                    show GZ _ _ _ _ _ _ _ 215 _ (.int r34 :: []) _ _
                    have hw := wp_if hw
                    refine G_if_eq (tgt := 226) dX11_readsAll_215 rfl (fun c37 => ?_) (fun c37 => ?_)
                    · have hw := hw.1 c37
                      refine G_aload_n dX11_readsAll_226 rfl ?_
                      refine G_iconst (v := (1 : Int32)) dX11_readsAll_227 (by decide) ?_
                      obtain ⟨c40, hw⟩ := wp_ck hw
                      refine G_callV (As := [.int (1 : Int32)]) (s_X11_fails hs l0 (1 : Int32) h35 _ (wp_cl hw)) ca_X11_fails w_1635 w_50 (ci := 10) rfl (by decide) w_1633 c40 (Nat.le_of_ble_eq_true rfl) (Nat.le_of_ble_eq_true rfl) rfl (Nat.le_of_ble_eq_true rfl) (Nat.le_of_ble_eq_true rfl) (Nat.le_of_ble_eq_true rfl) dX11_readsAll_228 rfl (fun v h39 hq => ?_)
                      obtain ⟨r38, rfl, hw⟩ := hq
                      refine G.cse (cs' := (0, 0)) rfl ?_
                      show GZ _ _ _ _ _ _ _ 231 _ (.int r38 :: []) _ _
                      refine G.less [some (.ref l0), none] ⟨rfl, trivial⟩ ?_
                      exact f_X11_readsAll_231_ok hs hK_64 _ _ h39 Q hw
                    · have hw := hw.2 c37
                      refine G_aload_n dX11_readsAll_218 rfl ?_
                      refine G_iconst (v := (1 : Int32)) dX11_readsAll_219 (by decide) ?_
                      obtain ⟨c43, hw⟩ := wp_ck hw
                      refine G_callV (As := [.int (1 : Int32)]) (s_X11_readsLaw hs l0 (1 : Int32) h35 _ (wp_cl hw)) ca_X11_readsLaw w_1734 w_68 (ci := 10) rfl (by decide) w_1732 c43 (Nat.le_of_ble_eq_true rfl) (Nat.le_of_ble_eq_true rfl) rfl (Nat.le_of_ble_eq_true rfl) (Nat.le_of_ble_eq_true rfl) (Nat.le_of_ble_eq_true rfl) dX11_readsAll_220 rfl (fun v h42 hq => ?_)
                      obtain ⟨r41, rfl, hw⟩ := hq
                      refine G.cse (cs' := (0, 0)) rfl ?_
                      show GZ _ _ _ _ _ _ _ 223 _ (.int r41 :: []) _ _
                      refine G_goto (tgt := 231) dX11_readsAll_223 rfl ?_
                      refine G.less [some (.ref l0), none] ⟨rfl, trivial⟩ ?_
                      exact f_X11_readsAll_231_ok hs hK_64 _ _ h42 Q hw
                  · have hw := hw.2 c33
                    refine G_aload_n dX11_readsAll_200 rfl ?_
                    refine G_iconst (v := (0 : Int32)) dX11_readsAll_201 (by decide) ?_
                    obtain ⟨c46, hw⟩ := wp_ck hw
                    refine G_callV (As := [.int (0 : Int32)]) (s_X11_readsLaw hs l0 (0 : Int32) h31 _ (wp_cl hw)) ca_X11_readsLaw w_1734 w_68 (ci := 10) rfl (by decide) w_1732 c46 (Nat.le_of_ble_eq_true rfl) (Nat.le_of_ble_eq_true rfl) rfl (Nat.le_of_ble_eq_true rfl) (Nat.le_of_ble_eq_true rfl) (Nat.le_of_ble_eq_true rfl) dX11_readsAll_202 rfl (fun v h45 hq => ?_)
                    obtain ⟨r44, rfl, hw⟩ := hq
                    refine G.cse (cs' := (0, 0)) rfl ?_
                    show GZ _ _ _ _ _ _ _ 205 _ (.int r44 :: []) _ _
                    refine G_goto (tgt := 231) dX11_readsAll_205 rfl ?_
                    refine G.less [some (.ref l0), none] ⟨rfl, trivial⟩ ?_
                    exact f_X11_readsAll_231_ok hs hK_64 _ _ h45 Q hw
                · have hw := hw.2 c29
                  refine G_aload_n dX11_readsAll_183 rfl ?_
                  obtain ⟨c49, hw⟩ := wp_ck hw
                  refine G_callV (As := []) (s_X11_readsWinds hs l0 h27 _ (wp_cl hw)) ca_X11_readsWinds w_1730 w_67 (ci := 10) rfl (by decide) w_1728 c49 (Nat.le_of_ble_eq_true rfl) (Nat.le_of_ble_eq_true rfl) rfl (Nat.le_of_ble_eq_true rfl) (Nat.le_of_ble_eq_true rfl) (Nat.le_of_ble_eq_true rfl) dX11_readsAll_184 rfl (fun v h48 hq => ?_)
                  obtain ⟨r47, rfl, hw⟩ := hq
                  refine G.cse (cs' := (0, 0)) rfl ?_
                  show GZ _ _ _ _ _ _ _ 187 _ (.int r47 :: []) _ _
                  refine G_goto (tgt := 231) dX11_readsAll_187 rfl ?_
                  refine G.less [some (.ref l0), none] ⟨rfl, trivial⟩ ?_
                  exact f_X11_readsAll_231_ok hs hK_64 _ _ h48 Q hw
              · have hw := hw.2 c25
                refine G_aload_n dX11_readsAll_166 rfl ?_
                obtain ⟨c52, hw⟩ := wp_ck hw
                refine G_callV (As := []) (s_X11_readsWatcher hs l0 h23 _ (wp_cl hw)) ca_X11_readsWatcher w_1726 w_66 (ci := 10) rfl (by decide) w_1724 c52 (Nat.le_of_ble_eq_true rfl) (Nat.le_of_ble_eq_true rfl) rfl (Nat.le_of_ble_eq_true rfl) (Nat.le_of_ble_eq_true rfl) (Nat.le_of_ble_eq_true rfl) dX11_readsAll_167 rfl (fun v h51 hq => ?_)
                obtain ⟨r50, rfl, hw⟩ := hq
                refine G.cse (cs' := (0, 0)) rfl ?_
                show GZ _ _ _ _ _ _ _ 170 _ (.int r50 :: []) _ _
                refine G_goto (tgt := 231) dX11_readsAll_170 rfl ?_
                refine G.less [some (.ref l0), none] ⟨rfl, trivial⟩ ?_
                exact f_X11_readsAll_231_ok hs hK_64 _ _ h51 Q hw
            · have hw := hw.2 c21
              refine G_aload_n dX11_readsAll_149 rfl ?_
              obtain ⟨c55, hw⟩ := wp_ck hw
              refine G_callV (As := []) (s_X11_readsSign hs l0 h19 _ (wp_cl hw)) ca_X11_readsSign w_1718 w_64 (ci := 10) rfl (by decide) w_1716 c55 (Nat.le_of_ble_eq_true rfl) (Nat.le_of_ble_eq_true rfl) rfl (Nat.le_of_ble_eq_true rfl) (Nat.le_of_ble_eq_true rfl) (Nat.le_of_ble_eq_true rfl) dX11_readsAll_150 rfl (fun v h54 hq => ?_)
              obtain ⟨r53, rfl, hw⟩ := hq
              refine G.cse (cs' := (0, 0)) rfl ?_
              show GZ _ _ _ _ _ _ _ 153 _ (.int r53 :: []) _ _
              refine G_goto (tgt := 231) dX11_readsAll_153 rfl ?_
              refine G.less [some (.ref l0), none] ⟨rfl, trivial⟩ ?_
              exact f_X11_readsAll_231_ok hs hK_64 _ _ h54 Q hw
          · have hw := hw.2 c17
            refine G_aload_n dX11_readsAll_132 rfl ?_
            obtain ⟨c58, hw⟩ := wp_ck hw
            refine G_callV (As := []) (s_X11_readsStock hs l0 h15 _ (wp_cl hw)) ca_X11_readsStock w_1714 w_63 (ci := 10) rfl (by decide) w_1712 c58 (Nat.le_of_ble_eq_true rfl) (Nat.le_of_ble_eq_true rfl) rfl (Nat.le_of_ble_eq_true rfl) (Nat.le_of_ble_eq_true rfl) (Nat.le_of_ble_eq_true rfl) dX11_readsAll_133 rfl (fun v h57 hq => ?_)
            obtain ⟨r56, rfl, hw⟩ := hq
            refine G.cse (cs' := (0, 0)) rfl ?_
            show GZ _ _ _ _ _ _ _ 136 _ (.int r56 :: []) _ _
            refine G_goto (tgt := 231) dX11_readsAll_136 rfl ?_
            refine G.less [some (.ref l0), none] ⟨rfl, trivial⟩ ?_
            exact f_X11_readsAll_231_ok hs hK_64 _ _ h57 Q hw
        · have hw := hw.2 c13
          refine G_aload_n dX11_readsAll_115 rfl ?_
          obtain ⟨c61, hw⟩ := wp_ck hw
          refine G_callV (As := []) (s_X11_readsHouse hs l0 h11 _ (wp_cl hw)) ca_X11_readsHouse w_1706 w_61 (ci := 10) rfl (by decide) w_1704 c61 (Nat.le_of_ble_eq_true rfl) (Nat.le_of_ble_eq_true rfl) rfl (Nat.le_of_ble_eq_true rfl) (Nat.le_of_ble_eq_true rfl) (Nat.le_of_ble_eq_true rfl) dX11_readsAll_116 rfl (fun v h60 hq => ?_)
          obtain ⟨r59, rfl, hw⟩ := hq
          refine G.cse (cs' := (0, 0)) rfl ?_
          show GZ _ _ _ _ _ _ _ 119 _ (.int r59 :: []) _ _
          refine G_goto (tgt := 231) dX11_readsAll_119 rfl ?_
          refine G.less [some (.ref l0), none] ⟨rfl, trivial⟩ ?_
          exact f_X11_readsAll_231_ok hs hK_64 _ _ h60 Q hw
      · have hw := hw.2 c9
        refine G_aload_n dX11_readsAll_98 rfl ?_
        obtain ⟨c64, hw⟩ := wp_ck hw
        refine G_callV (As := []) (s_X11_readsFlue hs l0 h7 _ (wp_cl hw)) ca_X11_readsFlue w_1702 w_60 (ci := 10) rfl (by decide) w_1700 c64 (Nat.le_of_ble_eq_true rfl) (Nat.le_of_ble_eq_true rfl) rfl (Nat.le_of_ble_eq_true rfl) (Nat.le_of_ble_eq_true rfl) (Nat.le_of_ble_eq_true rfl) dX11_readsAll_99 rfl (fun v h63 hq => ?_)
        obtain ⟨r62, rfl, hw⟩ := hq
        refine G.cse (cs' := (0, 0)) rfl ?_
        show GZ _ _ _ _ _ _ _ 102 _ (.int r62 :: []) _ _
        refine G_goto (tgt := 231) dX11_readsAll_102 rfl ?_
        refine G.less [some (.ref l0), none] ⟨rfl, trivial⟩ ?_
        exact f_X11_readsAll_231_ok hs hK_64 _ _ h63 Q hw
    · have hw := hw.2 c5
      refine G_aload_n dX11_readsAll_81 rfl ?_
      obtain ⟨c67, hw⟩ := wp_ck hw
      refine G_callV (As := []) (s_X11_readsFuel hs l0 h4 _ (wp_cl hw)) ca_X11_readsFuel w_1631 w_49 (ci := 10) rfl (by decide) w_1629 c67 (Nat.le_of_ble_eq_true rfl) (Nat.le_of_ble_eq_true rfl) rfl (Nat.le_of_ble_eq_true rfl) (Nat.le_of_ble_eq_true rfl) (Nat.le_of_ble_eq_true rfl) dX11_readsAll_82 rfl (fun v h66 hq => ?_)
      obtain ⟨r65, rfl, hw⟩ := hq
      refine G.cse (cs' := (0, 0)) rfl ?_
      show GZ _ _ _ _ _ _ _ 85 _ (.int r65 :: []) _ _
      refine G_goto (tgt := 231) dX11_readsAll_85 rfl ?_
      refine G.less [some (.ref l0), none] ⟨rfl, trivial⟩ ?_
      exact f_X11_readsAll_231_ok hs hK_64 _ _ h66 Q hw
theorem f_X11_readsAll_64_ok {Γ : GX} (hs : SF Γ) {N : Nat} : ∀ (n : Nat) (l0 : Nat) (h : PH) (Q : Int32 → PH → Prop), wp (f_X11_readsAll_64 N n l0 h) Q → G Γ yX11_readsAll cX11_readsAll 2 (some .boolean) (7, 0, 0) 64 [some (.ref l0), none] [] h (0, 0) (q_i Q)
  | 0, _, _, Q, hw => (wp_no hw).elim
  | n + 1, l0, h, Q, hw => f_X11_readsAll_64_bok (N := N) hs (f_X11_readsAll_64_ok (N := N) hs n) l0 h Q hw
set_option maxHeartbeats 4000000 in
set_option maxRecDepth 100000 in
theorem f_X11_readsAll_24_bok {Γ : GX} (hs : SF Γ) {N : Nat} {K_24 : Nat → Int32 → PH → Option (Int32 × PH)} (hK_24 : ∀ (l0 : Nat) (l1 : Int32) (h : PH) (Q : Int32 → PH → Prop), wp (K_24 l0 l1 h) Q → G Γ yX11_readsAll cX11_readsAll 2 (some .boolean) (7, 0, 0) 24 [some (.ref l0), some (.int l1)] [] h (0, 0) (q_i Q)) (l0 : Nat) (l1 : Int32) (h : PH) (Q : Int32 → PH → Prop) (hw : wp (f_X11_readsAll_24_b N K_24 l0 l1 h) Q) : G Γ yX11_readsAll cX11_readsAll 2 (some .boolean) (7, 0, 0) 24 [some (.ref l0), some (.int l1)] [] h (0, 0) (q_i Q) := by
  unfold f_X11_readsAll_24_b at hw
  refine G_iload_n dX11_readsAll_24 rfl ?_
  refine G_iconst (v := (4 : Int32)) dX11_readsAll_25 (by decide) ?_
  have hw := wp_if hw
  refine G_icmp_ge (tgt := 53) dX11_readsAll_26 rfl (fun c1 => ?_) (fun c1 => ?_)
  · have hw := hw.1 c1
    refine G_aload_n dX11_readsAll_53 rfl ?_
    refine G_sipush (v := (1000 : Int32)) dX11_readsAll_54 (by decide) ?_
    obtain ⟨c2, hw⟩ := wp_ck hw
    refine G_putI fl_X11_code w_1416 dX11_readsAll_57 c2 ?_
    refine G.nmh fun h3 eh3 => ?_
    have hw := wp_bd hw h3 eh3
    refine G_aload_n dX11_readsAll_60 rfl ?_
    obtain ⟨c6, hw⟩ := wp_ck hw
    refine G_callV (As := []) (s_X11_begins hs l0 h3 _ (wp_cl hw)) ca_X11_begins w_1612 w_45 (ci := 10) rfl (by decide) w_1610 c6 (Nat.le_of_ble_eq_true rfl) (Nat.le_of_ble_eq_true rfl) rfl (Nat.le_of_ble_eq_true rfl) (Nat.le_of_ble_eq_true rfl) (Nat.le_of_ble_eq_true rfl) dX11_readsAll_61 rfl (fun v h5 hq => ?_)
    obtain ⟨rfl, hw⟩ := hq
    refine G.cse (cs' := (0, 0)) rfl ?_
    show GZ _ _ _ _ _ _ _ 64 _ [] _ _
    refine G.less [some (.ref l0), none] ⟨rfl, trivial⟩ ?_
    exact f_X11_readsAll_64_ok hs N _ h5 Q hw
  · have hw := hw.2 c1
    refine G_aload_n dX11_readsAll_29 rfl ?_
    obtain ⟨c7, hw⟩ := wp_ck hw
    refine G_getR fl_X11_lineFrom w_1413 dX11_readsAll_30 c7 ?_
    obtain ⟨a8, ea8, hw⟩ := wp_rq hw
    refine G.sure ea8 ?_
    refine G_iload_n dX11_readsAll_33 rfl ?_
    refine G_sipush (v := (1000 : Int32)) dX11_readsAll_34 (by decide) ?_
    obtain ⟨c9, hw⟩ := wp_ck hw
    obtain ⟨c10, hw⟩ := wp_ck hw
    refine G_iastore dX11_readsAll_37 c9 c10 ?_
    refine G.nmh fun h11 eh11 => ?_
    have hw := wp_bd hw h11 eh11
    refine G_aload_n dX11_readsAll_38 rfl ?_
    obtain ⟨c12, hw⟩ := wp_ck hw
    refine G_getR fl_X11_lineTo w_1414 dX11_readsAll_39 c12 ?_
    obtain ⟨a13, ea13, hw⟩ := wp_rq hw
    refine G.sure ea13 ?_
    refine G_iload_n dX11_readsAll_42 rfl ?_
    refine G_sipush (v := (1000 : Int32)) dX11_readsAll_43 (by decide) ?_
    obtain ⟨c14, hw⟩ := wp_ck hw
    obtain ⟨c15, hw⟩ := wp_ck hw
    refine G_iastore dX11_readsAll_46 c14 c15 ?_
    refine G.nmh fun h16 eh16 => ?_
    have hw := wp_bd hw h16 eh16
    obtain ⟨v17, ev17⟩ : ∃ z : Int32, z = l1 + (1 : Int32) := ⟨_, rfl⟩
    have hw := wp_bd hw v17 ev17
    refine G_iinc (v := v17) (lv' := [some (.ref l0), some (.int v17)]) dX11_readsAll_47 rfl (by rw [ev17]; rfl) (Nat.le_of_ble_eq_true rfl) rfl ?_
    refine G_goto (tgt := 24) dX11_readsAll_50 rfl ?_
    refine G.less [some (.ref l0), some (.int v17)] ⟨rfl, ⟨rfl, trivial⟩⟩ ?_
    exact hK_24 _ _ h16 Q hw
theorem f_X11_readsAll_24_ok {Γ : GX} (hs : SF Γ) {N : Nat} : ∀ (n : Nat) (l0 : Nat) (l1 : Int32) (h : PH) (Q : Int32 → PH → Prop), wp (f_X11_readsAll_24 N n l0 l1 h) Q → G Γ yX11_readsAll cX11_readsAll 2 (some .boolean) (7, 0, 0) 24 [some (.ref l0), some (.int l1)] [] h (0, 0) (q_i Q)
  | 0, _, _, _, Q, hw => (wp_no hw).elim
  | n + 1, l0, l1, h, Q, hw => f_X11_readsAll_24_bok (N := N) hs (f_X11_readsAll_24_ok (N := N) hs n) l0 l1 h Q hw
set_option maxHeartbeats 4000000 in
set_option maxRecDepth 100000 in
theorem f_X11_readsAll_3_bok {Γ : GX} (hs : SF Γ) {N : Nat} {K_3 : Nat → Int32 → PH → Option (Int32 × PH)} (hK_3 : ∀ (l0 : Nat) (l1 : Int32) (h : PH) (Q : Int32 → PH → Prop), wp (K_3 l0 l1 h) Q → G Γ yX11_readsAll cX11_readsAll 2 (some .boolean) (7, 0, 0) 3 [some (.ref l0), some (.int l1)] [] h (0, 0) (q_i Q)) (l0 : Nat) (l1 : Int32) (h : PH) (Q : Int32 → PH → Prop) (hw : wp (f_X11_readsAll_3_b N K_3 l0 l1 h) Q) : G Γ yX11_readsAll cX11_readsAll 2 (some .boolean) (7, 0, 0) 3 [some (.ref l0), some (.int l1)] [] h (0, 0) (q_i Q) := by
  unfold f_X11_readsAll_3_b at hw
  refine G_iload_n dX11_readsAll_3 rfl ?_
  refine G_bipush (v := (12 : Int32)) dX11_readsAll_4 (by decide) ?_
  have hw := wp_if hw
  refine G_icmp_ge (tgt := 22) dX11_readsAll_6 rfl (fun c1 => ?_) (fun c1 => ?_)
  · have hw := hw.1 c1
    refine G_iconst (v := (2 : Int32)) dX11_readsAll_22 (by decide) ?_
    refine G_istore_n (lv' := [some (.ref l0), some (.int (2 : Int32))]) dX11_readsAll_23 (Nat.le_of_ble_eq_true rfl) rfl ?_
    refine G.less [some (.ref l0), some (.int (2 : Int32))] ⟨rfl, ⟨rfl, trivial⟩⟩ ?_
    exact f_X11_readsAll_24_ok hs N _ _ h Q hw
  · have hw := hw.2 c1
    refine G_aload_n dX11_readsAll_9 rfl ?_
    obtain ⟨c2, hw⟩ := wp_ck hw
    refine G_getR fl_X11_valley w_1403 dX11_readsAll_10 c2 ?_
    obtain ⟨a3, ea3, hw⟩ := wp_rq hw
    refine G.sure ea3 ?_
    refine G_iload_n dX11_readsAll_13 rfl ?_
    refine G_iconst (v := (0 : Int32)) dX11_readsAll_14 (by decide) ?_
    obtain ⟨c4, hw⟩ := wp_ck hw
    obtain ⟨c5, hw⟩ := wp_ck hw
    refine G_iastore dX11_readsAll_15 c4 c5 ?_
    refine G.nmh fun h6 eh6 => ?_
    have hw := wp_bd hw h6 eh6
    obtain ⟨v7, ev7⟩ : ∃ z : Int32, z = l1 + (1 : Int32) := ⟨_, rfl⟩
    have hw := wp_bd hw v7 ev7
    refine G_iinc (v := v7) (lv' := [some (.ref l0), some (.int v7)]) dX11_readsAll_16 rfl (by rw [ev7]; rfl) (Nat.le_of_ble_eq_true rfl) rfl ?_
    refine G_goto (tgt := 3) dX11_readsAll_19 rfl ?_
    refine G.less [some (.ref l0), some (.int v7)] ⟨rfl, ⟨rfl, trivial⟩⟩ ?_
    exact hK_3 _ _ h6 Q hw
theorem f_X11_readsAll_3_ok {Γ : GX} (hs : SF Γ) {N : Nat} : ∀ (n : Nat) (l0 : Nat) (l1 : Int32) (h : PH) (Q : Int32 → PH → Prop), wp (f_X11_readsAll_3 N n l0 l1 h) Q → G Γ yX11_readsAll cX11_readsAll 2 (some .boolean) (7, 0, 0) 3 [some (.ref l0), some (.int l1)] [] h (0, 0) (q_i Q)
  | 0, _, _, _, Q, hw => (wp_no hw).elim
  | n + 1, l0, l1, h, Q, hw => f_X11_readsAll_3_bok (N := N) hs (f_X11_readsAll_3_ok (N := N) hs n) l0 l1 h Q hw
set_option maxHeartbeats 4000000 in
set_option maxRecDepth 100000 in
theorem s_X11_readsAll {Γ : GX} (hs : SF Γ) {N : Nat} (l0 : Nat) (h : PH) (Q : Int32 → PH → Prop) (hw : wp (f_X11_readsAll N l0 h) Q) : Spec Γ yX11_readsAll cX11_readsAll 2 (some .boolean) (7, 0, 0) [.ref l0] h (q_i Q) := by
  refine Spec.of (by decide) (Nat.le_of_ble_eq_true rfl) [some (.ref l0), none] rfl ?_
  unfold f_X11_readsAll at hw
  refine G_bipush (v := (6 : Int32)) dX11_readsAll_0 (by decide) ?_
  refine G_istore_n (lv' := [some (.ref l0), some (.int (6 : Int32))]) dX11_readsAll_2 (Nat.le_of_ble_eq_true rfl) rfl ?_
  refine G.less [some (.ref l0), some (.int (6 : Int32))] ⟨rfl, ⟨rfl, trivial⟩⟩ ?_
  exact f_X11_readsAll_3_ok hs N _ _ h Q hw
set_option maxHeartbeats 4000000 in
set_option maxRecDepth 100000 in
theorem f_X11_shifts_2_bok {Γ : GX} (hs : SF Γ) {N : Nat} {K_2 : Nat → Int32 → Int32 → PH → Option (Unit × PH)} (hK_2 : ∀ (l0 : Nat) (l1 : Int32) (l2 : Int32) (h : PH) (Q : Unit → PH → Prop), wp (K_2 l0 l1 l2 h) Q → G Γ yX11_shifts cX11_shifts 3 none (1, 0, 0) 2 [some (.ref l0), some (.int l1), some (.int l2)] [] h (0, 0) (q_u Q)) (l0 : Nat) (l1 : Int32) (l2 : Int32) (h : PH) (Q : Unit → PH → Prop) (hw : wp (f_X11_shifts_2_b N K_2 l0 l1 l2 h) Q) : G Γ yX11_shifts cX11_shifts 3 none (1, 0, 0) 2 [some (.ref l0), some (.int l1), some (.int l2)] [] h (0, 0) (q_u Q) := by
  unfold f_X11_shifts_2_b at hw
  refine G_iload_n dX11_shifts_2 rfl ?_
  refine G_iload_n dX11_shifts_3 rfl ?_
  have hw := wp_if hw
  refine G_icmp_ge (tgt := 21) dX11_shifts_4 rfl (fun c1 => ?_) (fun c1 => ?_)
  · have hw := hw.1 c1
    exact G_vreturn rfl dX11_shifts_21 ⟨rfl, wp_ret hw⟩
  · have hw := hw.2 c1
    refine G_aload_n dX11_shifts_7 rfl ?_
    refine G_iload_n dX11_shifts_8 rfl ?_
    refine G_aload_n dX11_shifts_9 rfl ?_
    refine G_iload_n dX11_shifts_10 rfl ?_
    refine G_iload_n dX11_shifts_11 rfl ?_
    refine G_iadd dX11_shifts_12 ?_
    obtain ⟨c2, hw⟩ := wp_ck hw
    obtain ⟨c3, hw⟩ := wp_ck hw
    refine G_iaload dX11_shifts_13 c2 c3 ?_
    obtain ⟨c4, hw⟩ := wp_ck hw
    refine G_iastore dX11_shifts_14 c2 c4 ?_
    refine G.nmh fun h5 eh5 => ?_
    have hw := wp_bd hw h5 eh5
    obtain ⟨v6, ev6⟩ : ∃ z : Int32, z = l2 + (1 : Int32) := ⟨_, rfl⟩
    have hw := wp_bd hw v6 ev6
    refine G_iinc (v := v6) (lv' := [some (.ref l0), some (.int l1), some (.int v6)]) dX11_shifts_15 rfl (by rw [ev6]; rfl) (Nat.le_of_ble_eq_true rfl) rfl ?_
    refine G_goto (tgt := 2) dX11_shifts_18 rfl ?_
    refine G.less [some (.ref l0), some (.int l1), some (.int v6)] ⟨rfl, ⟨rfl, ⟨rfl, trivial⟩⟩⟩ ?_
    exact hK_2 _ _ _ h5 Q hw
theorem f_X11_shifts_2_ok {Γ : GX} (hs : SF Γ) {N : Nat} : ∀ (n : Nat) (l0 : Nat) (l1 : Int32) (l2 : Int32) (h : PH) (Q : Unit → PH → Prop), wp (f_X11_shifts_2 N n l0 l1 l2 h) Q → G Γ yX11_shifts cX11_shifts 3 none (1, 0, 0) 2 [some (.ref l0), some (.int l1), some (.int l2)] [] h (0, 0) (q_u Q)
  | 0, _, _, _, _, Q, hw => (wp_no hw).elim
  | n + 1, l0, l1, l2, h, Q, hw => f_X11_shifts_2_bok (N := N) hs (f_X11_shifts_2_ok (N := N) hs n) l0 l1 l2 h Q hw
set_option maxHeartbeats 4000000 in
set_option maxRecDepth 100000 in
theorem s_X11_shifts {Γ : GX} (hs : SF Γ) {N : Nat} (l0 : Nat) (l1 : Int32) (h : PH) (Q : Unit → PH → Prop) (hw : wp (f_X11_shifts N l0 l1 h) Q) : Spec Γ yX11_shifts cX11_shifts 3 none (1, 0, 0) [.ref l0, .int l1] h (q_u Q) := by
  refine Spec.of (by decide) (Nat.le_of_ble_eq_true rfl) [some (.ref l0), some (.int l1), none] rfl ?_
  unfold f_X11_shifts at hw
  refine G_iconst (v := (0 : Int32)) dX11_shifts_0 (by decide) ?_
  refine G_istore_n (lv' := [some (.ref l0), some (.int l1), some (.int (0 : Int32))]) dX11_shifts_1 (Nat.le_of_ble_eq_true rfl) rfl ?_
  refine G.less [some (.ref l0), some (.int l1), some (.int (0 : Int32))] ⟨rfl, ⟨rfl, ⟨rfl, trivial⟩⟩⟩ ?_
  exact f_X11_shifts_2_ok hs N _ _ _ h Q hw
set_option maxHeartbeats 4000000 in
set_option maxRecDepth 100000 in
theorem f_X11_lays_117_bok {Γ : GX} (hs : SF Γ) {N : Nat} {K_117 : Nat → Int32 → PH → Option (Unit × PH)} (hK_117 : ∀ (l0 : Nat) (l1 : Int32) (h : PH) (Q : Unit → PH → Prop), wp (K_117 l0 l1 h) Q → G Γ yX11_lays cX11_lays 2 none (2, 0, 0) 117 [some (.ref l0), some (.int l1)] [] h (0, 0) (q_u Q)) (l0 : Nat) (l1 : Int32) (h : PH) (Q : Unit → PH → Prop) (hw : wp (f_X11_lays_117_b N K_117 l0 l1 h) Q) : G Γ yX11_lays cX11_lays 2 none (2, 0, 0) 117 [some (.ref l0), some (.int l1)] [] h (0, 0) (q_u Q) := by
  unfold f_X11_lays_117_b at hw
  refine G_iload_n dX11_lays_117 rfl ?_
  refine G_iconst (v := (2 : Int32)) dX11_lays_118 (by decide) ?_
  have hw := wp_if hw
  refine G_icmp_ge (tgt := 164) dX11_lays_119 rfl (fun c1 => ?_) (fun c1 => ?_)
  · have hw := hw.1 c1
    exact G_vreturn rfl dX11_lays_164 ⟨rfl, wp_ret hw⟩
  · have hw := hw.2 c1
    refine G_aload_n dX11_lays_122 rfl ?_
    obtain ⟨c2, hw⟩ := wp_ck hw
    refine G_getR fl_X11_lineFrom w_1413 dX11_lays_123 c2 ?_
    obtain ⟨a3, ea3, hw⟩ := wp_rq hw
    refine G.sure ea3 ?_
    refine G_iload_n dX11_lays_126 rfl ?_
    refine G_aload_n dX11_lays_127 rfl ?_
    refine G_getR fl_X11_lineFrom w_1413 dX11_lays_128 c2 ?_
    obtain ⟨a4, ea4, hw⟩ := wp_rq hw
    refine G.sure ea4 ?_
    refine G_iconst (v := (2 : Int32)) dX11_lays_131 (by decide) ?_
    refine G_iload_n dX11_lays_132 rfl ?_
    refine G_iadd dX11_lays_133 ?_
    obtain ⟨c5, hw⟩ := wp_ck hw
    obtain ⟨c6, hw⟩ := wp_ck hw
    refine G_iaload dX11_lays_134 c5 c6 ?_
    refine G_sipush (v := (1000 : Int32)) dX11_lays_135 (by decide) ?_
    refine G_isub dX11_lays_138 ?_
    obtain ⟨c7, hw⟩ := wp_ck hw
    obtain ⟨c8, hw⟩ := wp_ck hw
    refine G_iastore dX11_lays_139 c7 c8 ?_
    refine G.nmh fun h9 eh9 => ?_
    have hw := wp_bd hw h9 eh9
    refine G_aload_n dX11_lays_140 rfl ?_
    obtain ⟨c10, hw⟩ := wp_ck hw
    refine G_getR fl_X11_lineTo w_1414 dX11_lays_141 c10 ?_
    obtain ⟨a11, ea11, hw⟩ := wp_rq hw
    refine G.sure ea11 ?_
    refine G_iload_n dX11_lays_144 rfl ?_
    refine G_aload_n dX11_lays_145 rfl ?_
    refine G_getR fl_X11_lineTo w_1414 dX11_lays_146 c10 ?_
    obtain ⟨a12, ea12, hw⟩ := wp_rq hw
    refine G.sure ea12 ?_
    refine G_iconst (v := (2 : Int32)) dX11_lays_149 (by decide) ?_
    refine G_iload_n dX11_lays_150 rfl ?_
    refine G_iadd dX11_lays_151 ?_
    obtain ⟨c13, hw⟩ := wp_ck hw
    obtain ⟨c14, hw⟩ := wp_ck hw
    refine G_iaload dX11_lays_152 c13 c14 ?_
    refine G_sipush (v := (1000 : Int32)) dX11_lays_153 (by decide) ?_
    refine G_isub dX11_lays_156 ?_
    obtain ⟨c15, hw⟩ := wp_ck hw
    obtain ⟨c16, hw⟩ := wp_ck hw
    refine G_iastore dX11_lays_157 c15 c16 ?_
    refine G.nmh fun h17 eh17 => ?_
    have hw := wp_bd hw h17 eh17
    obtain ⟨v18, ev18⟩ : ∃ z : Int32, z = l1 + (1 : Int32) := ⟨_, rfl⟩
    have hw := wp_bd hw v18 ev18
    refine G_iinc (v := v18) (lv' := [some (.ref l0), some (.int v18)]) dX11_lays_158 rfl (by rw [ev18]; rfl) (Nat.le_of_ble_eq_true rfl) rfl ?_
    refine G_goto (tgt := 117) dX11_lays_161 rfl ?_
    refine G.less [some (.ref l0), some (.int v18)] ⟨rfl, ⟨rfl, trivial⟩⟩ ?_
    exact hK_117 _ _ h17 Q hw
theorem f_X11_lays_117_ok {Γ : GX} (hs : SF Γ) {N : Nat} : ∀ (n : Nat) (l0 : Nat) (l1 : Int32) (h : PH) (Q : Unit → PH → Prop), wp (f_X11_lays_117 N n l0 l1 h) Q → G Γ yX11_lays cX11_lays 2 none (2, 0, 0) 117 [some (.ref l0), some (.int l1)] [] h (0, 0) (q_u Q)
  | 0, _, _, _, Q, hw => (wp_no hw).elim
  | n + 1, l0, l1, h, Q, hw => f_X11_lays_117_bok (N := N) hs (f_X11_lays_117_ok (N := N) hs n) l0 l1 h Q hw
set_option maxHeartbeats 4000000 in
set_option maxRecDepth 100000 in
theorem f_X11_lays_11_bok {Γ : GX} (hs : SF Γ) {N : Nat} {K_11 : Nat → Int32 → PH → Option (Unit × PH)} (hK_11 : ∀ (l0 : Nat) (l1 : Int32) (h : PH) (Q : Unit → PH → Prop), wp (K_11 l0 l1 h) Q → G Γ yX11_lays cX11_lays 2 none (2, 0, 0) 11 [some (.ref l0), some (.int l1)] [] h (0, 0) (q_u Q)) (l0 : Nat) (l1 : Int32) (h : PH) (Q : Unit → PH → Prop) (hw : wp (f_X11_lays_11_b N K_11 l0 l1 h) Q) : G Γ yX11_lays cX11_lays 2 none (2, 0, 0) 11 [some (.ref l0), some (.int l1)] [] h (0, 0) (q_u Q) := by
  unfold f_X11_lays_11_b at hw
  refine G_iload_n dX11_lays_11 rfl ?_
  refine G_bipush (v := (22 : Int32)) dX11_lays_12 (by decide) ?_
  have hw := wp_if hw
  refine G_icmp_ge (tgt := 38) dX11_lays_14 rfl (fun c1 => ?_) (fun c1 => ?_)
  · have hw := hw.1 c1
    refine G_aload_n dX11_lays_38 rfl ?_
    obtain ⟨c2, hw⟩ := wp_ck hw
    refine G_getR fl_X11_fuelDark w_1405 dX11_lays_39 c2 ?_
    obtain ⟨a3, ea3, hw⟩ := wp_rq hw
    refine G.sure ea3 ?_
    refine G_iconst (v := (5 : Int32)) dX11_lays_42 (by decide) ?_
    refine G_callS (As := [.ref a3, .int (5 : Int32)]) (s_X11_shifts hs a3 (5 : Int32) h _ (wp_cl hw)) ca_X11_shifts w_1758 w_1757 (Nat.le_of_ble_eq_true rfl) (Nat.le_of_ble_eq_true rfl) rfl (Nat.le_of_ble_eq_true rfl) (Nat.le_of_ble_eq_true rfl) (Nat.le_of_ble_eq_true rfl) dX11_lays_43 rfl (fun v h5 hq => ?_)
    obtain ⟨rfl, hw⟩ := hq
    refine G.cse (cs' := (0, 0)) rfl ?_
    show GZ _ _ _ _ _ _ _ 46 _ [] _ _
    refine G_aload_n dX11_lays_46 rfl ?_
    obtain ⟨c6, hw⟩ := wp_ck hw
    refine G_getR fl_X11_fuelSweet w_1406 dX11_lays_47 c6 ?_
    obtain ⟨a7, ea7, hw⟩ := wp_rq hw
    refine G.sure ea7 ?_
    refine G_iconst (v := (5 : Int32)) dX11_lays_50 (by decide) ?_
    refine G_callS (As := [.ref a7, .int (5 : Int32)]) (s_X11_shifts hs a7 (5 : Int32) h5 _ (wp_cl hw)) ca_X11_shifts w_1758 w_1757 (Nat.le_of_ble_eq_true rfl) (Nat.le_of_ble_eq_true rfl) rfl (Nat.le_of_ble_eq_true rfl) (Nat.le_of_ble_eq_true rfl) (Nat.le_of_ble_eq_true rfl) dX11_lays_51 rfl (fun v h9 hq => ?_)
    obtain ⟨rfl, hw⟩ := hq
    refine G.cse (cs' := (0, 0)) rfl ?_
    show GZ _ _ _ _ _ _ _ 54 _ [] _ _
    refine G_aload_n dX11_lays_54 rfl ?_
    obtain ⟨c10, hw⟩ := wp_ck hw
    refine G_getR fl_X11_fuelLong w_1407 dX11_lays_55 c10 ?_
    obtain ⟨a11, ea11, hw⟩ := wp_rq hw
    refine G.sure ea11 ?_
    refine G_iconst (v := (5 : Int32)) dX11_lays_58 (by decide) ?_
    refine G_callS (As := [.ref a11, .int (5 : Int32)]) (s_X11_shifts hs a11 (5 : Int32) h9 _ (wp_cl hw)) ca_X11_shifts w_1758 w_1757 (Nat.le_of_ble_eq_true rfl) (Nat.le_of_ble_eq_true rfl) rfl (Nat.le_of_ble_eq_true rfl) (Nat.le_of_ble_eq_true rfl) (Nat.le_of_ble_eq_true rfl) dX11_lays_59 rfl (fun v h13 hq => ?_)
    obtain ⟨rfl, hw⟩ := hq
    refine G.cse (cs' := (0, 0)) rfl ?_
    show GZ _ _ _ _ _ _ _ 62 _ [] _ _
    refine G_aload_n dX11_lays_62 rfl ?_
    obtain ⟨c14, hw⟩ := wp_ck hw
    refine G_getR fl_X11_houseAt w_1408 dX11_lays_63 c14 ?_
    obtain ⟨a15, ea15, hw⟩ := wp_rq hw
    refine G.sure ea15 ?_
    refine G_iconst (v := (4 : Int32)) dX11_lays_66 (by decide) ?_
    refine G_callS (As := [.ref a15, .int (4 : Int32)]) (s_X11_shifts hs a15 (4 : Int32) h13 _ (wp_cl hw)) ca_X11_shifts w_1758 w_1757 (Nat.le_of_ble_eq_true rfl) (Nat.le_of_ble_eq_true rfl) rfl (Nat.le_of_ble_eq_true rfl) (Nat.le_of_ble_eq_true rfl) (Nat.le_of_ble_eq_true rfl) dX11_lays_67 rfl (fun v h17 hq => ?_)
    obtain ⟨rfl, hw⟩ := hq
    refine G.cse (cs' := (0, 0)) rfl ?_
    show GZ _ _ _ _ _ _ _ 70 _ [] _ _
    refine G_aload_n dX11_lays_70 rfl ?_
    obtain ⟨c18, hw⟩ := wp_ck hw
    refine G_getR fl_X11_stockTold w_1409 dX11_lays_71 c18 ?_
    obtain ⟨a19, ea19, hw⟩ := wp_rq hw
    refine G.sure ea19 ?_
    refine G_bipush (v := (20 : Int32)) dX11_lays_74 (by decide) ?_
    refine G_callS (As := [.ref a19, .int (20 : Int32)]) (s_X11_shifts hs a19 (20 : Int32) h17 _ (wp_cl hw)) ca_X11_shifts w_1758 w_1757 (Nat.le_of_ble_eq_true rfl) (Nat.le_of_ble_eq_true rfl) rfl (Nat.le_of_ble_eq_true rfl) (Nat.le_of_ble_eq_true rfl) (Nat.le_of_ble_eq_true rfl) dX11_lays_76 rfl (fun v h21 hq => ?_)
    obtain ⟨rfl, hw⟩ := hq
    refine G.cse (cs' := (0, 0)) rfl ?_
    show GZ _ _ _ _ _ _ _ 79 _ [] _ _
    refine G_aload_n dX11_lays_79 rfl ?_
    obtain ⟨c22, hw⟩ := wp_ck hw
    refine G_getR fl_X11_signs w_1410 dX11_lays_80 c22 ?_
    obtain ⟨a23, ea23, hw⟩ := wp_rq hw
    refine G.sure ea23 ?_
    refine G_bipush (v := (24 : Int32)) dX11_lays_83 (by decide) ?_
    refine G_callS (As := [.ref a23, .int (24 : Int32)]) (s_X11_shifts hs a23 (24 : Int32) h21 _ (wp_cl hw)) ca_X11_shifts w_1758 w_1757 (Nat.le_of_ble_eq_true rfl) (Nat.le_of_ble_eq_true rfl) rfl (Nat.le_of_ble_eq_true rfl) (Nat.le_of_ble_eq_true rfl) (Nat.le_of_ble_eq_true rfl) dX11_lays_85 rfl (fun v h25 hq => ?_)
    obtain ⟨rfl, hw⟩ := hq
    refine G.cse (cs' := (0, 0)) rfl ?_
    show GZ _ _ _ _ _ _ _ 88 _ [] _ _
    refine G_aload_n dX11_lays_88 rfl ?_
    obtain ⟨c26, hw⟩ := wp_ck hw
    refine G_getR fl_X11_sight w_1411 dX11_lays_89 c26 ?_
    obtain ⟨a27, ea27, hw⟩ := wp_rq hw
    refine G.sure ea27 ?_
    refine G_iconst (v := (4 : Int32)) dX11_lays_92 (by decide) ?_
    refine G_callS (As := [.ref a27, .int (4 : Int32)]) (s_X11_shifts hs a27 (4 : Int32) h25 _ (wp_cl hw)) ca_X11_shifts w_1758 w_1757 (Nat.le_of_ble_eq_true rfl) (Nat.le_of_ble_eq_true rfl) rfl (Nat.le_of_ble_eq_true rfl) (Nat.le_of_ble_eq_true rfl) (Nat.le_of_ble_eq_true rfl) dX11_lays_93 rfl (fun v h29 hq => ?_)
    obtain ⟨rfl, hw⟩ := hq
    refine G.cse (cs' := (0, 0)) rfl ?_
    show GZ _ _ _ _ _ _ _ 96 _ [] _ _
    refine G_aload_n dX11_lays_96 rfl ?_
    obtain ⟨c30, hw⟩ := wp_ck hw
    refine G_getR fl_X11_wind w_1412 dX11_lays_97 c30 ?_
    obtain ⟨a31, ea31, hw⟩ := wp_rq hw
    refine G.sure ea31 ?_
    refine G_bipush (v := (12 : Int32)) dX11_lays_100 (by decide) ?_
    refine G_callS (As := [.ref a31, .int (12 : Int32)]) (s_X11_shifts hs a31 (12 : Int32) h29 _ (wp_cl hw)) ca_X11_shifts w_1758 w_1757 (Nat.le_of_ble_eq_true rfl) (Nat.le_of_ble_eq_true rfl) rfl (Nat.le_of_ble_eq_true rfl) (Nat.le_of_ble_eq_true rfl) (Nat.le_of_ble_eq_true rfl) dX11_lays_102 rfl (fun v h33 hq => ?_)
    obtain ⟨rfl, hw⟩ := hq
    refine G.cse (cs' := (0, 0)) rfl ?_
    show GZ _ _ _ _ _ _ _ 105 _ [] _ _
    refine G_aload_n dX11_lays_105 rfl ?_
    obtain ⟨c34, hw⟩ := wp_ck hw
    refine G_getR fl_X11_codes w_1415 dX11_lays_106 c34 ?_
    obtain ⟨a35, ea35, hw⟩ := wp_rq hw
    refine G.sure ea35 ?_
    refine G_sipush (v := (1000 : Int32)) dX11_lays_109 (by decide) ?_
    refine G_callS (As := [.ref a35, .int (1000 : Int32)]) (s_X11_shifts hs a35 (1000 : Int32) h33 _ (wp_cl hw)) ca_X11_shifts w_1758 w_1757 (Nat.le_of_ble_eq_true rfl) (Nat.le_of_ble_eq_true rfl) rfl (Nat.le_of_ble_eq_true rfl) (Nat.le_of_ble_eq_true rfl) (Nat.le_of_ble_eq_true rfl) dX11_lays_112 rfl (fun v h37 hq => ?_)
    obtain ⟨rfl, hw⟩ := hq
    refine G.cse (cs' := (0, 0)) rfl ?_
    show GZ _ _ _ _ _ _ _ 115 _ [] _ _
    refine G_iconst (v := (0 : Int32)) dX11_lays_115 (by decide) ?_
    refine G_istore_n (lv' := [some (.ref l0), some (.int (0 : Int32))]) dX11_lays_116 (Nat.le_of_ble_eq_true rfl) rfl ?_
    refine G.less [some (.ref l0), some (.int (0 : Int32))] ⟨rfl, ⟨rfl, trivial⟩⟩ ?_
    exact f_X11_lays_117_ok hs N _ _ h37 Q hw
  · have hw := hw.2 c1
    refine G_aload_n dX11_lays_17 rfl ?_
    obtain ⟨c38, hw⟩ := wp_ck hw
    refine G_getR fl_X11_names w_1404 dX11_lays_18 c38 ?_
    obtain ⟨a39, ea39, hw⟩ := wp_rq hw
    refine G.sure ea39 ?_
    refine G_iload_n dX11_lays_21 rfl ?_
    refine G_aload_n dX11_lays_22 rfl ?_
    refine G_getR fl_X11_names w_1404 dX11_lays_23 c38 ?_
    obtain ⟨a40, ea40, hw⟩ := wp_rq hw
    refine G.sure ea40 ?_
    refine G_bipush (v := (22 : Int32)) dX11_lays_26 (by decide) ?_
    refine G_iload_n dX11_lays_28 rfl ?_
    refine G_iadd dX11_lays_29 ?_
    obtain ⟨c41, hw⟩ := wp_ck hw
    obtain ⟨c42, hw⟩ := wp_ck hw
    refine G_laload dX11_lays_30 c41 c42 ?_
    obtain ⟨c43, hw⟩ := wp_ck hw
    obtain ⟨c44, hw⟩ := wp_ck hw
    refine G_lastore dX11_lays_31 c43 c44 ?_
    refine G.nmh fun h45 eh45 => ?_
    have hw := wp_bd hw h45 eh45
    obtain ⟨v46, ev46⟩ : ∃ z : Int32, z = l1 + (1 : Int32) := ⟨_, rfl⟩
    have hw := wp_bd hw v46 ev46
    refine G_iinc (v := v46) (lv' := [some (.ref l0), some (.int v46)]) dX11_lays_32 rfl (by rw [ev46]; rfl) (Nat.le_of_ble_eq_true rfl) rfl ?_
    refine G_goto (tgt := 11) dX11_lays_35 rfl ?_
    refine G.less [some (.ref l0), some (.int v46)] ⟨rfl, ⟨rfl, trivial⟩⟩ ?_
    exact hK_11 _ _ h45 Q hw
theorem f_X11_lays_11_ok {Γ : GX} (hs : SF Γ) {N : Nat} : ∀ (n : Nat) (l0 : Nat) (l1 : Int32) (h : PH) (Q : Unit → PH → Prop), wp (f_X11_lays_11 N n l0 l1 h) Q → G Γ yX11_lays cX11_lays 2 none (2, 0, 0) 11 [some (.ref l0), some (.int l1)] [] h (0, 0) (q_u Q)
  | 0, _, _, _, Q, hw => (wp_no hw).elim
  | n + 1, l0, l1, h, Q, hw => f_X11_lays_11_bok (N := N) hs (f_X11_lays_11_ok (N := N) hs n) l0 l1 h Q hw
set_option maxHeartbeats 4000000 in
set_option maxRecDepth 100000 in
theorem s_X11_lays {Γ : GX} (hs : SF Γ) {N : Nat} (l0 : Nat) (h : PH) (Q : Unit → PH → Prop) (hw : wp (f_X11_lays N l0 h) Q) : Spec Γ yX11_lays cX11_lays 2 none (2, 0, 0) [.ref l0] h (q_u Q) := by
  refine Spec.of (by decide) (Nat.le_of_ble_eq_true rfl) [some (.ref l0), none] rfl ?_
  unfold f_X11_lays at hw
  refine G_aload_n dX11_lays_0 rfl ?_
  obtain ⟨c1, hw⟩ := wp_ck hw
  refine G_getR fl_X11_valley w_1403 dX11_lays_1 c1 ?_
  obtain ⟨a2, ea2, hw⟩ := wp_rq hw
  refine G.sure ea2 ?_
  refine G_bipush (v := (6 : Int32)) dX11_lays_4 (by decide) ?_
  refine G_callS (As := [.ref a2, .int (6 : Int32)]) (s_X11_shifts hs a2 (6 : Int32) h _ (wp_cl hw)) ca_X11_shifts w_1758 w_1757 (Nat.le_of_ble_eq_true rfl) (Nat.le_of_ble_eq_true rfl) rfl (Nat.le_of_ble_eq_true rfl) (Nat.le_of_ble_eq_true rfl) (Nat.le_of_ble_eq_true rfl) dX11_lays_6 rfl (fun v h4 hq => ?_)
  obtain ⟨rfl, hw⟩ := hq
  refine G.cse (cs' := (0, 0)) rfl ?_
  show GZ _ _ _ _ _ _ _ 9 _ [] _ _
  refine G_iconst (v := (0 : Int32)) dX11_lays_9 (by decide) ?_
  refine G_istore_n (lv' := [some (.ref l0), some (.int (0 : Int32))]) dX11_lays_10 (Nat.le_of_ble_eq_true rfl) rfl ?_
  refine G.less [some (.ref l0), some (.int (0 : Int32))] ⟨rfl, ⟨rfl, trivial⟩⟩ ?_
  exact f_X11_lays_11_ok hs N _ _ h4 Q hw
set_option maxHeartbeats 4000000 in
set_option maxRecDepth 100000 in
theorem f_X11_copies_3_bok {Γ : GX} (hs : SF Γ) {N : Nat} {K_3 : Nat → Int32 → Nat → Int32 → Int32 → PH → Option (Unit × PH)} (hK_3 : ∀ (l0 : Nat) (l1 : Int32) (l2 : Nat) (l3 : Int32) (l4 : Int32) (h : PH) (Q : Unit → PH → Prop), wp (K_3 l0 l1 l2 l3 l4 h) Q → G Γ yX11_copies cX11_copies 5 none (1, 0, 0) 3 [some (.ref l0), some (.int l1), some (.ref l2), some (.int l3), some (.int l4)] [] h (0, 0) (q_u Q)) (l0 : Nat) (l1 : Int32) (l2 : Nat) (l3 : Int32) (l4 : Int32) (h : PH) (Q : Unit → PH → Prop) (hw : wp (f_X11_copies_3_b N K_3 l0 l1 l2 l3 l4 h) Q) : G Γ yX11_copies cX11_copies 5 none (1, 0, 0) 3 [some (.ref l0), some (.int l1), some (.ref l2), some (.int l3), some (.int l4)] [] h (0, 0) (q_u Q) := by
  unfold f_X11_copies_3_b at hw
  refine G_iload dX11_copies_3 rfl ?_
  refine G_bipush (v := (32 : Int32)) dX11_copies_5 (by decide) ?_
  have hw := wp_if hw
  refine G_icmp_ge (tgt := 28) dX11_copies_7 rfl (fun c1 => ?_) (fun c1 => ?_)
  · have hw := hw.1 c1
    exact G_vreturn rfl dX11_copies_28 ⟨rfl, wp_ret hw⟩
  · have hw := hw.2 c1
    refine G_aload_n dX11_copies_10 rfl ?_
    refine G_iload_n dX11_copies_11 rfl ?_
    refine G_iload dX11_copies_12 rfl ?_
    refine G_iadd dX11_copies_14 ?_
    refine G_aload_n dX11_copies_15 rfl ?_
    refine G_iload_n dX11_copies_16 rfl ?_
    refine G_iload dX11_copies_17 rfl ?_
    refine G_iadd dX11_copies_19 ?_
    obtain ⟨c2, hw⟩ := wp_ck hw
    obtain ⟨c3, hw⟩ := wp_ck hw
    refine G_iaload dX11_copies_20 c2 c3 ?_
    obtain ⟨c4, hw⟩ := wp_ck hw
    obtain ⟨c5, hw⟩ := wp_ck hw
    refine G_iastore dX11_copies_21 c4 c5 ?_
    refine G.nmh fun h6 eh6 => ?_
    have hw := wp_bd hw h6 eh6
    obtain ⟨v7, ev7⟩ : ∃ z : Int32, z = l4 + (1 : Int32) := ⟨_, rfl⟩
    have hw := wp_bd hw v7 ev7
    refine G_iinc (v := v7) (lv' := [some (.ref l0), some (.int l1), some (.ref l2), some (.int l3), some (.int v7)]) dX11_copies_22 rfl (by rw [ev7]; rfl) (Nat.le_of_ble_eq_true rfl) rfl ?_
    refine G_goto (tgt := 3) dX11_copies_25 rfl ?_
    refine G.less [some (.ref l0), some (.int l1), some (.ref l2), some (.int l3), some (.int v7)] ⟨rfl, ⟨rfl, ⟨rfl, ⟨rfl, ⟨rfl, trivial⟩⟩⟩⟩⟩ ?_
    exact hK_3 _ _ _ _ _ h6 Q hw
theorem f_X11_copies_3_ok {Γ : GX} (hs : SF Γ) {N : Nat} : ∀ (n : Nat) (l0 : Nat) (l1 : Int32) (l2 : Nat) (l3 : Int32) (l4 : Int32) (h : PH) (Q : Unit → PH → Prop), wp (f_X11_copies_3 N n l0 l1 l2 l3 l4 h) Q → G Γ yX11_copies cX11_copies 5 none (1, 0, 0) 3 [some (.ref l0), some (.int l1), some (.ref l2), some (.int l3), some (.int l4)] [] h (0, 0) (q_u Q)
  | 0, _, _, _, _, _, _, Q, hw => (wp_no hw).elim
  | n + 1, l0, l1, l2, l3, l4, h, Q, hw => f_X11_copies_3_bok (N := N) hs (f_X11_copies_3_ok (N := N) hs n) l0 l1 l2 l3 l4 h Q hw
set_option maxHeartbeats 4000000 in
set_option maxRecDepth 100000 in
theorem s_X11_copies {Γ : GX} (hs : SF Γ) {N : Nat} (l0 : Nat) (l1 : Int32) (l2 : Nat) (l3 : Int32) (h : PH) (Q : Unit → PH → Prop) (hw : wp (f_X11_copies N l0 l1 l2 l3 h) Q) : Spec Γ yX11_copies cX11_copies 5 none (1, 0, 0) [.ref l0, .int l1, .ref l2, .int l3] h (q_u Q) := by
  refine Spec.of (by decide) (Nat.le_of_ble_eq_true rfl) [some (.ref l0), some (.int l1), some (.ref l2), some (.int l3), none] rfl ?_
  unfold f_X11_copies at hw
  refine G_iconst (v := (0 : Int32)) dX11_copies_0 (by decide) ?_
  refine G_istore (lv' := [some (.ref l0), some (.int l1), some (.ref l2), some (.int l3), some (.int (0 : Int32))]) dX11_copies_1 (Nat.le_of_ble_eq_true rfl) rfl ?_
  refine G.less [some (.ref l0), some (.int l1), some (.ref l2), some (.int l3), some (.int (0 : Int32))] ⟨rfl, ⟨rfl, ⟨rfl, ⟨rfl, ⟨rfl, trivial⟩⟩⟩⟩⟩ ?_
  exact f_X11_copies_3_ok hs N _ _ _ _ _ h Q hw
set_option maxHeartbeats 4000000 in
set_option maxRecDepth 100000 in
theorem s_X11_readsBurn {Γ : GX} (hs : SF Γ) {N : Nat} (l0 : Nat) (l1 : Int32) (h : PH) (Q : Int32 → PH → Prop) (hw : wp (f_X11_readsBurn N l0 l1 h) Q) : Spec Γ yX11_readsBurn cX11_readsBurn 2 (some .boolean) (4, 0, 0) [.ref l0, .int l1] h (q_i Q) := by
  refine Spec.of (by decide) (Nat.le_of_ble_eq_true rfl) [some (.ref l0), some (.int l1)] rfl ?_
  unfold f_X11_readsBurn at hw
  refine G_aload_n dX11_readsBurn_0 rfl ?_
  refine G_iconst (v := (0 : Int32)) dX11_readsBurn_1 (by decide) ?_
  refine G_iconst (v := (2 : Int32)) dX11_readsBurn_2 (by decide) ?_
  obtain ⟨c3, hw⟩ := wp_ck hw
  refine G_callV (As := [.int (0 : Int32), .int (2 : Int32)]) (s_X11_needsNamed hs l0 (0 : Int32) (2 : Int32) h _ (wp_cl hw)) ca_X11_needsNamed w_1710 w_62 (ci := 10) rfl (by decide) w_1708 c3 (Nat.le_of_ble_eq_true rfl) (Nat.le_of_ble_eq_true rfl) rfl (Nat.le_of_ble_eq_true rfl) (Nat.le_of_ble_eq_true rfl) (Nat.le_of_ble_eq_true rfl) dX11_readsBurn_3 rfl (fun v h2 hq => ?_)
  obtain ⟨r1, rfl, hw⟩ := hq
  refine G.cse (cs' := (0, 0)) rfl ?_
  show GZ _ _ _ _ _ _ _ 6 _ (.int r1 :: []) _ _
  have hw := wp_if hw
  refine G_if_ne (tgt := 11) dX11_readsBurn_6 rfl (fun c4 => ?_) (fun c4 => ?_)
  · have hw := hw.2 c4
    refine G_aload_n dX11_readsBurn_11 rfl ?_
    obtain ⟨c5, hw⟩ := wp_ck hw
    refine G_getR fl_X11_lineA w_1434 dX11_readsBurn_12 c5 ?_
    obtain ⟨a6, ea6, hw⟩ := wp_rq hw
    refine G.sure ea6 ?_
    refine G_iload_n dX11_readsBurn_15 rfl ?_
    refine G_aload_n dX11_readsBurn_16 rfl ?_
    refine G_getI fl_X11_given w_1430 dX11_readsBurn_17 c5 ?_
    obtain ⟨c7, hw⟩ := wp_ck hw
    obtain ⟨c8, hw⟩ := wp_ck hw
    refine G_iastore dX11_readsBurn_20 c7 c8 ?_
    refine G.nmh fun h9 eh9 => ?_
    have hw := wp_bd hw h9 eh9
    refine G_aload_n dX11_readsBurn_21 rfl ?_
    obtain ⟨c12, hw⟩ := wp_ck hw
    refine G_callV (As := []) (s_X11_nextToken hs l0 h9 _ (wp_cl hw)) ca_X11_nextToken w_1616 w_46 (ci := 10) rfl (by decide) w_1614 c12 (Nat.le_of_ble_eq_true rfl) (Nat.le_of_ble_eq_true rfl) rfl (Nat.le_of_ble_eq_true rfl) (Nat.le_of_ble_eq_true rfl) (Nat.le_of_ble_eq_true rfl) dX11_readsBurn_22 rfl (fun v h11 hq => ?_)
    obtain ⟨rfl, hw⟩ := hq
    refine G.cse (cs' := (0, 0)) rfl ?_
    show GZ _ _ _ _ _ _ _ 25 _ [] _ _
    refine G_aload_n dX11_readsBurn_25 rfl ?_
    refine G_iconst (v := (0 : Int32)) dX11_readsBurn_26 (by decide) ?_
    refine G_iconst (v := (0 : Int32)) dX11_readsBurn_27 (by decide) ?_
    obtain ⟨c15, hw⟩ := wp_ck hw
    refine G_callV (As := [.int (0 : Int32), .int (0 : Int32)]) (s_X11_needsNamed hs l0 (0 : Int32) (0 : Int32) h11 _ (wp_cl hw)) ca_X11_needsNamed w_1710 w_62 (ci := 10) rfl (by decide) w_1708 c15 (Nat.le_of_ble_eq_true rfl) (Nat.le_of_ble_eq_true rfl) rfl (Nat.le_of_ble_eq_true rfl) (Nat.le_of_ble_eq_true rfl) (Nat.le_of_ble_eq_true rfl) dX11_readsBurn_28 rfl (fun v h14 hq => ?_)
    obtain ⟨r13, rfl, hw⟩ := hq
    refine G.cse (cs' := (0, 0)) rfl ?_
    show GZ _ _ _ _ _ _ _ 31 _ (.int r13 :: []) _ _
    have hw := wp_if hw
    refine G_if_ne (tgt := 36) dX11_readsBurn_31 rfl (fun c16 => ?_) (fun c16 => ?_)
    · have hw := hw.2 c16
      refine G_aload_n dX11_readsBurn_36 rfl ?_
      obtain ⟨c17, hw⟩ := wp_ck hw
      refine G_getR fl_X11_lineB w_1435 dX11_readsBurn_37 c17 ?_
      obtain ⟨a18, ea18, hw⟩ := wp_rq hw
      refine G.sure ea18 ?_
      refine G_iload_n dX11_readsBurn_40 rfl ?_
      refine G_aload_n dX11_readsBurn_41 rfl ?_
      refine G_getI fl_X11_given w_1430 dX11_readsBurn_42 c17 ?_
      obtain ⟨c19, hw⟩ := wp_ck hw
      obtain ⟨c20, hw⟩ := wp_ck hw
      refine G_iastore dX11_readsBurn_45 c19 c20 ?_
      refine G.nmh fun h21 eh21 => ?_
      have hw := wp_bd hw h21 eh21
      refine G_aload_n dX11_readsBurn_46 rfl ?_
      obtain ⟨c24, hw⟩ := wp_ck hw
      refine G_callV (As := []) (s_X11_nextToken hs l0 h21 _ (wp_cl hw)) ca_X11_nextToken w_1616 w_46 (ci := 10) rfl (by decide) w_1614 c24 (Nat.le_of_ble_eq_true rfl) (Nat.le_of_ble_eq_true rfl) rfl (Nat.le_of_ble_eq_true rfl) (Nat.le_of_ble_eq_true rfl) (Nat.le_of_ble_eq_true rfl) dX11_readsBurn_47 rfl (fun v h23 hq => ?_)
      obtain ⟨rfl, hw⟩ := hq
      refine G.cse (cs' := (0, 0)) rfl ?_
      show GZ _ _ _ _ _ _ _ 50 _ [] _ _
      refine G_iconst (v := (1 : Int32)) dX11_readsBurn_50 (by decide) ?_
      exact G_zreturn rfl dX11_readsBurn_51 rfl ⟨_, rfl, wp_ret hw⟩
    · have hw := hw.1 c16
      refine G_iconst (v := (0 : Int32)) dX11_readsBurn_34 (by decide) ?_
      exact G_zreturn rfl dX11_readsBurn_35 rfl ⟨_, rfl, wp_ret hw⟩
  · have hw := hw.1 c4
    refine G_iconst (v := (0 : Int32)) dX11_readsBurn_9 (by decide) ?_
    exact G_zreturn rfl dX11_readsBurn_10 rfl ⟨_, rfl, wp_ret hw⟩
set_option maxHeartbeats 4000000 in
set_option maxRecDepth 100000 in
theorem s_X11_readsLend {Γ : GX} (hs : SF Γ) {N : Nat} (l0 : Nat) (l1 : Int32) (h : PH) (Q : Int32 → PH → Prop) (hw : wp (f_X11_readsLend N l0 l1 h) Q) : Spec Γ yX11_readsLend cX11_readsLend 2 (some .boolean) (4, 0, 0) [.ref l0, .int l1] h (q_i Q) := by
  refine Spec.of (by decide) (Nat.le_of_ble_eq_true rfl) [some (.ref l0), some (.int l1)] rfl ?_
  unfold f_X11_readsLend at hw
  refine G_aload_n dX11_readsLend_0 rfl ?_
  refine G_iconst (v := (0 : Int32)) dX11_readsLend_1 (by decide) ?_
  refine G_iconst (v := (2 : Int32)) dX11_readsLend_2 (by decide) ?_
  obtain ⟨c3, hw⟩ := wp_ck hw
  refine G_callV (As := [.int (0 : Int32), .int (2 : Int32)]) (s_X11_needsNamed hs l0 (0 : Int32) (2 : Int32) h _ (wp_cl hw)) ca_X11_needsNamed w_1710 w_62 (ci := 10) rfl (by decide) w_1708 c3 (Nat.le_of_ble_eq_true rfl) (Nat.le_of_ble_eq_true rfl) rfl (Nat.le_of_ble_eq_true rfl) (Nat.le_of_ble_eq_true rfl) (Nat.le_of_ble_eq_true rfl) dX11_readsLend_3 rfl (fun v h2 hq => ?_)
  obtain ⟨r1, rfl, hw⟩ := hq
  refine G.cse (cs' := (0, 0)) rfl ?_
  show GZ _ _ _ _ _ _ _ 6 _ (.int r1 :: []) _ _
  have hw := wp_if hw
  refine G_if_ne (tgt := 11) dX11_readsLend_6 rfl (fun c4 => ?_) (fun c4 => ?_)
  · have hw := hw.2 c4
    refine G_aload_n dX11_readsLend_11 rfl ?_
    obtain ⟨c5, hw⟩ := wp_ck hw
    refine G_getR fl_X11_lineA w_1434 dX11_readsLend_12 c5 ?_
    obtain ⟨a6, ea6, hw⟩ := wp_rq hw
    refine G.sure ea6 ?_
    refine G_iload_n dX11_readsLend_15 rfl ?_
    refine G_aload_n dX11_readsLend_16 rfl ?_
    refine G_getI fl_X11_given w_1430 dX11_readsLend_17 c5 ?_
    obtain ⟨c7, hw⟩ := wp_ck hw
    obtain ⟨c8, hw⟩ := wp_ck hw
    refine G_iastore dX11_readsLend_20 c7 c8 ?_
    refine G.nmh fun h9 eh9 => ?_
    have hw := wp_bd hw h9 eh9
    refine G_aload_n dX11_readsLend_21 rfl ?_
    obtain ⟨c12, hw⟩ := wp_ck hw
    refine G_callV (As := []) (s_X11_nextToken hs l0 h9 _ (wp_cl hw)) ca_X11_nextToken w_1616 w_46 (ci := 10) rfl (by decide) w_1614 c12 (Nat.le_of_ble_eq_true rfl) (Nat.le_of_ble_eq_true rfl) rfl (Nat.le_of_ble_eq_true rfl) (Nat.le_of_ble_eq_true rfl) (Nat.le_of_ble_eq_true rfl) dX11_readsLend_22 rfl (fun v h11 hq => ?_)
    obtain ⟨rfl, hw⟩ := hq
    refine G.cse (cs' := (0, 0)) rfl ?_
    show GZ _ _ _ _ _ _ _ 25 _ [] _ _
    refine G_aload_n dX11_readsLend_25 rfl ?_
    refine G_iconst (v := (0 : Int32)) dX11_readsLend_26 (by decide) ?_
    refine G_iconst (v := (2 : Int32)) dX11_readsLend_27 (by decide) ?_
    obtain ⟨c15, hw⟩ := wp_ck hw
    refine G_callV (As := [.int (0 : Int32), .int (2 : Int32)]) (s_X11_needsNamed hs l0 (0 : Int32) (2 : Int32) h11 _ (wp_cl hw)) ca_X11_needsNamed w_1710 w_62 (ci := 10) rfl (by decide) w_1708 c15 (Nat.le_of_ble_eq_true rfl) (Nat.le_of_ble_eq_true rfl) rfl (Nat.le_of_ble_eq_true rfl) (Nat.le_of_ble_eq_true rfl) (Nat.le_of_ble_eq_true rfl) dX11_readsLend_28 rfl (fun v h14 hq => ?_)
    obtain ⟨r13, rfl, hw⟩ := hq
    refine G.cse (cs' := (0, 0)) rfl ?_
    show GZ _ _ _ _ _ _ _ 31 _ (.int r13 :: []) _ _
    have hw := wp_if hw
    refine G_if_ne (tgt := 36) dX11_readsLend_31 rfl (fun c16 => ?_) (fun c16 => ?_)
    · have hw := hw.2 c16
      refine G_aload_n dX11_readsLend_36 rfl ?_
      obtain ⟨c17, hw⟩ := wp_ck hw
      refine G_getI fl_X11_given w_1430 dX11_readsLend_37 c17 ?_
      refine G_aload_n dX11_readsLend_40 rfl ?_
      refine G_getR fl_X11_lineA w_1434 dX11_readsLend_41 c17 ?_
      obtain ⟨a18, ea18, hw⟩ := wp_rq hw
      refine G.sure ea18 ?_
      refine G_iload_n dX11_readsLend_44 rfl ?_
      obtain ⟨c19, hw⟩ := wp_ck hw
      obtain ⟨c20, hw⟩ := wp_ck hw
      refine G_iaload dX11_readsLend_45 c19 c20 ?_
      have hw := wp_if hw
      refine G_icmp_ne (tgt := 55) dX11_readsLend_46 rfl (fun c21 => ?_) (fun c21 => ?_)
      · have hw := hw.2 c21
        refine G_aload_n dX11_readsLend_55 rfl ?_
        refine G_getR fl_X11_lineB w_1435 dX11_readsLend_56 c17 ?_
        obtain ⟨a22, ea22, hw⟩ := wp_rq hw
        refine G.sure ea22 ?_
        refine G_iload_n dX11_readsLend_59 rfl ?_
        refine G_aload_n dX11_readsLend_60 rfl ?_
        refine G_getI fl_X11_given w_1430 dX11_readsLend_61 c17 ?_
        obtain ⟨c23, hw⟩ := wp_ck hw
        obtain ⟨c24, hw⟩ := wp_ck hw
        refine G_iastore dX11_readsLend_64 c23 c24 ?_
        refine G.nmh fun h25 eh25 => ?_
        have hw := wp_bd hw h25 eh25
        refine G_aload_n dX11_readsLend_65 rfl ?_
        obtain ⟨c28, hw⟩ := wp_ck hw
        refine G_callV (As := []) (s_X11_nextToken hs l0 h25 _ (wp_cl hw)) ca_X11_nextToken w_1616 w_46 (ci := 10) rfl (by decide) w_1614 c28 (Nat.le_of_ble_eq_true rfl) (Nat.le_of_ble_eq_true rfl) rfl (Nat.le_of_ble_eq_true rfl) (Nat.le_of_ble_eq_true rfl) (Nat.le_of_ble_eq_true rfl) dX11_readsLend_66 rfl (fun v h27 hq => ?_)
        obtain ⟨rfl, hw⟩ := hq
        refine G.cse (cs' := (0, 0)) rfl ?_
        show GZ _ _ _ _ _ _ _ 69 _ [] _ _
        refine G_aload_n dX11_readsLend_69 rfl ?_
        refine G_iconst (v := (0 : Int32)) dX11_readsLend_70 (by decide) ?_
        refine G_iconst (v := (0 : Int32)) dX11_readsLend_71 (by decide) ?_
        obtain ⟨c31, hw⟩ := wp_ck hw
        refine G_callV (As := [.int (0 : Int32), .int (0 : Int32)]) (s_X11_needsNamed hs l0 (0 : Int32) (0 : Int32) h27 _ (wp_cl hw)) ca_X11_needsNamed w_1710 w_62 (ci := 10) rfl (by decide) w_1708 c31 (Nat.le_of_ble_eq_true rfl) (Nat.le_of_ble_eq_true rfl) rfl (Nat.le_of_ble_eq_true rfl) (Nat.le_of_ble_eq_true rfl) (Nat.le_of_ble_eq_true rfl) dX11_readsLend_72 rfl (fun v h30 hq => ?_)
        obtain ⟨r29, rfl, hw⟩ := hq
        refine G.cse (cs' := (0, 0)) rfl ?_
        show GZ _ _ _ _ _ _ _ 75 _ (.int r29 :: []) _ _
        have hw := wp_if hw
        refine G_if_ne (tgt := 80) dX11_readsLend_75 rfl (fun c32 => ?_) (fun c32 => ?_)
        · have hw := hw.2 c32
          refine G_aload_n dX11_readsLend_80 rfl ?_
          obtain ⟨c33, hw⟩ := wp_ck hw
          refine G_getR fl_X11_lineC w_1436 dX11_readsLend_81 c33 ?_
          obtain ⟨a34, ea34, hw⟩ := wp_rq hw
          refine G.sure ea34 ?_
          refine G_iload_n dX11_readsLend_84 rfl ?_
          refine G_aload_n dX11_readsLend_85 rfl ?_
          refine G_getI fl_X11_given w_1430 dX11_readsLend_86 c33 ?_
          obtain ⟨c35, hw⟩ := wp_ck hw
          obtain ⟨c36, hw⟩ := wp_ck hw
          refine G_iastore dX11_readsLend_89 c35 c36 ?_
          refine G.nmh fun h37 eh37 => ?_
          have hw := wp_bd hw h37 eh37
          refine G_aload_n dX11_readsLend_90 rfl ?_
          obtain ⟨c40, hw⟩ := wp_ck hw
          refine G_callV (As := []) (s_X11_nextToken hs l0 h37 _ (wp_cl hw)) ca_X11_nextToken w_1616 w_46 (ci := 10) rfl (by decide) w_1614 c40 (Nat.le_of_ble_eq_true rfl) (Nat.le_of_ble_eq_true rfl) rfl (Nat.le_of_ble_eq_true rfl) (Nat.le_of_ble_eq_true rfl) (Nat.le_of_ble_eq_true rfl) dX11_readsLend_91 rfl (fun v h39 hq => ?_)
          obtain ⟨rfl, hw⟩ := hq
          refine G.cse (cs' := (0, 0)) rfl ?_
          show GZ _ _ _ _ _ _ _ 94 _ [] _ _
          refine G_aload_n dX11_readsLend_94 rfl ?_
          refine G_iconst (v := (1 : Int32)) dX11_readsLend_95 (by decide) ?_
          refine G_bipush (v := (99 : Int32)) dX11_readsLend_96 (by decide) ?_
          obtain ⟨c43, hw⟩ := wp_ck hw
          refine G_callV (As := [.int (1 : Int32), .int (99 : Int32)]) (s_X11_needsNumber hs l0 (1 : Int32) (99 : Int32) h39 _ (wp_cl hw)) ca_X11_needsNumber w_1683 w_56 (ci := 10) rfl (by decide) w_1681 c43 (Nat.le_of_ble_eq_true rfl) (Nat.le_of_ble_eq_true rfl) rfl (Nat.le_of_ble_eq_true rfl) (Nat.le_of_ble_eq_true rfl) (Nat.le_of_ble_eq_true rfl) dX11_readsLend_98 rfl (fun v h42 hq => ?_)
          obtain ⟨r41, rfl, hw⟩ := hq
          refine G.cse (cs' := (0, 0)) rfl ?_
          show GZ _ _ _ _ _ _ _ 101 _ (.int r41 :: []) _ _
          have hw := wp_if hw
          refine G_if_ne (tgt := 106) dX11_readsLend_101 rfl (fun c44 => ?_) (fun c44 => ?_)
          · have hw := hw.2 c44
            refine G_aload_n dX11_readsLend_106 rfl ?_
            obtain ⟨c45, hw⟩ := wp_ck hw
            refine G_getR fl_X11_lineN w_1437 dX11_readsLend_107 c45 ?_
            obtain ⟨a46, ea46, hw⟩ := wp_rq hw
            refine G.sure ea46 ?_
            refine G_iload_n dX11_readsLend_110 rfl ?_
            refine G_aload_n dX11_readsLend_111 rfl ?_
            refine G_getI fl_X11_given w_1430 dX11_readsLend_112 c45 ?_
            obtain ⟨c47, hw⟩ := wp_ck hw
            obtain ⟨c48, hw⟩ := wp_ck hw
            refine G_iastore dX11_readsLend_115 c47 c48 ?_
            refine G.nmh fun h49 eh49 => ?_
            have hw := wp_bd hw h49 eh49
            refine G_iconst (v := (1 : Int32)) dX11_readsLend_116 (by decide) ?_
            exact G_zreturn rfl dX11_readsLend_117 rfl ⟨_, rfl, wp_ret hw⟩
          · have hw := hw.1 c44
            refine G_iconst (v := (0 : Int32)) dX11_readsLend_104 (by decide) ?_
            exact G_zreturn rfl dX11_readsLend_105 rfl ⟨_, rfl, wp_ret hw⟩
        · have hw := hw.1 c32
          refine G_iconst (v := (0 : Int32)) dX11_readsLend_78 (by decide) ?_
          exact G_zreturn rfl dX11_readsLend_79 rfl ⟨_, rfl, wp_ret hw⟩
      · have hw := hw.1 c21
        refine G_aload_n dX11_readsLend_49 rfl ?_
        refine G_iconst (v := (3 : Int32)) dX11_readsLend_50 (by decide) ?_
        refine G_callV (As := [.int (3 : Int32)]) (s_X11_fails hs l0 (3 : Int32) h14 _ (wp_cl hw)) ca_X11_fails w_1635 w_50 (ci := 10) rfl (by decide) w_1633 c17 (Nat.le_of_ble_eq_true rfl) (Nat.le_of_ble_eq_true rfl) rfl (Nat.le_of_ble_eq_true rfl) (Nat.le_of_ble_eq_true rfl) (Nat.le_of_ble_eq_true rfl) dX11_readsLend_51 rfl (fun v h51 hq => ?_)
        obtain ⟨r50, rfl, hw⟩ := hq
        refine G.cse (cs' := (0, 0)) rfl ?_
        show GZ _ _ _ _ _ _ _ 54 _ (.int r50 :: []) _ _
        obtain ⟨c52, hw⟩ := wp_ck hw
        exact G_zreturn rfl dX11_readsLend_54 (g_nb c52) ⟨_, rfl, wp_ret hw⟩
    · have hw := hw.1 c16
      refine G_iconst (v := (0 : Int32)) dX11_readsLend_34 (by decide) ?_
      exact G_zreturn rfl dX11_readsLend_35 rfl ⟨_, rfl, wp_ret hw⟩
  · have hw := hw.1 c4
    refine G_iconst (v := (0 : Int32)) dX11_readsLend_9 (by decide) ?_
    exact G_zreturn rfl dX11_readsLend_10 rfl ⟨_, rfl, wp_ret hw⟩
set_option maxHeartbeats 4000000 in
set_option maxRecDepth 100000 in
theorem f_X11_readsLine_120_ok {Γ : GX} (hs : SF Γ) {N : Nat} (l0 : Nat) (h : PH) (Q : Int32 → PH → Prop) (hw : wp (f_X11_readsLine_120 N l0 h) Q) : G Γ yX11_readsLine cX11_readsLine 3 (some .boolean) (5, 0, 0) 120 [some (.ref l0), none, none] [] h (0, 0) (q_i Q) := by
  unfold f_X11_readsLine_120 at hw
  refine G_aload_n dX11_readsLine_120 rfl ?_
  obtain ⟨c1, hw⟩ := wp_ck hw
  refine G_getR fl_X11_lines w_1432 dX11_readsLine_121 c1 ?_
  obtain ⟨a2, ea2, hw⟩ := wp_rq hw
  refine G.sure ea2 ?_
  refine G_iconst (v := (5 : Int32)) dX11_readsLine_124 (by decide) ?_
  refine G_dup2 dX11_readsLine_125 rfl rfl ?_
  obtain ⟨c3, hw⟩ := wp_ck hw
  obtain ⟨c4, hw⟩ := wp_ck hw
  refine G_ialoadK (k := 5) dX11_readsLine_126 c3 (by decide) rfl c4 ?_
  refine G_iconst (v := (1 : Int32)) dX11_readsLine_127 (by decide) ?_
  refine G_iadd dX11_readsLine_128 ?_
  refine G_iastoreK (k := 5) dX11_readsLine_129 c3 (by decide) rfl c4 ?_
  refine G.nmh fun h5 eh5 => ?_
  have hw := wp_bd hw h5 eh5
  refine G_aload_n dX11_readsLine_130 rfl ?_
  obtain ⟨c8, hw⟩ := wp_ck hw
  refine G_callV (As := []) (s_X11_closes hs l0 h5 _ (wp_cl hw)) ca_X11_closes w_1694 w_58 (ci := 10) rfl (by decide) w_1692 c8 (Nat.le_of_ble_eq_true rfl) (Nat.le_of_ble_eq_true rfl) rfl (Nat.le_of_ble_eq_true rfl) (Nat.le_of_ble_eq_true rfl) (Nat.le_of_ble_eq_true rfl) dX11_readsLine_131 rfl (fun v h7 hq => ?_)
  obtain ⟨r6, rfl, hw⟩ := hq
  refine G.cse (cs' := (0, 0)) rfl ?_
  show GZ _ _ _ _ _ _ _ 134 _ (.int r6 :: []) _ _
  obtain ⟨c9, hw⟩ := wp_ck hw
  exact G_zreturn rfl dX11_readsLine_134 (g_nb c9) ⟨_, rfl, wp_ret hw⟩
set_option maxHeartbeats 4000000 in
set_option maxRecDepth 100000 in
theorem f_X11_readsLine_105_ok {Γ : GX} (hs : SF Γ) {N : Nat} (l0 : Nat) (l1 : Int32) (l2 : Int32) (h : PH) (Q : Int32 → PH → Prop) (hw : wp (f_X11_readsLine_105 N l0 l1 l2 h) Q) : G Γ yX11_readsLine cX11_readsLine 3 (some .boolean) (5, 0, 0) 105 [some (.ref l0), some (.int l1), some (.int l2)] [] h (0, 0) (q_i Q) := by
  unfold f_X11_readsLine_105 at hw
  refine G_iload_n dX11_readsLine_105 rfl ?_
  refine G_iconst (v := (1 : Int32)) dX11_readsLine_106 (by decide) ?_
  have hw := wp_if hw
  refine G_icmp_ne (tgt := 120) dX11_readsLine_107 rfl (fun c1 => ?_) (fun c1 => ?_)
  · have hw := hw.2 c1
    refine G.less [some (.ref l0), none, none] ⟨rfl, trivial⟩ ?_
    exact f_X11_readsLine_120_ok hs _ h Q hw
  · have hw := hw.1 c1
    refine G_aload_n dX11_readsLine_110 rfl ?_
    refine G_iload_n dX11_readsLine_111 rfl ?_
    obtain ⟨c4, hw⟩ := wp_ck hw
    refine G_callV (As := [.int l2]) (s_X11_readsLend hs l0 l2 h _ (wp_cl hw)) ca_X11_readsLend w_1774 w_75 (ci := 10) rfl (by decide) w_1772 c4 (Nat.le_of_ble_eq_true rfl) (Nat.le_of_ble_eq_true rfl) rfl (Nat.le_of_ble_eq_true rfl) (Nat.le_of_ble_eq_true rfl) (Nat.le_of_ble_eq_true rfl) dX11_readsLine_112 rfl (fun v h3 hq => ?_)
    obtain ⟨r2, rfl, hw⟩ := hq
    refine G.cse (cs' := (0, 0)) rfl ?_
    show GZ _ _ _ _ _ _ _ 115 _ (.int r2 :: []) _ _
    have hw := wp_if hw
    refine G_if_ne (tgt := 120) dX11_readsLine_115 rfl (fun c5 => ?_) (fun c5 => ?_)
    · have hw := hw.2 c5
      refine G.less [some (.ref l0), none, none] ⟨rfl, trivial⟩ ?_
      exact f_X11_readsLine_120_ok hs _ h3 Q hw
    · have hw := hw.1 c5
      refine G_iconst (v := (0 : Int32)) dX11_readsLine_118 (by decide) ?_
      exact G_zreturn rfl dX11_readsLine_119 rfl ⟨_, rfl, wp_ret hw⟩
set_option maxHeartbeats 4000000 in
set_option maxRecDepth 100000 in
theorem f_X11_readsLine_43_ok {Γ : GX} (hs : SF Γ) {N : Nat} (s0 : Int32) (l0 : Nat) (h : PH) (Q : Int32 → PH → Prop) (hw : wp (f_X11_readsLine_43 N s0 l0 h) Q) : G Γ yX11_readsLine cX11_readsLine 3 (some .boolean) (5, 0, 0) 43 [some (.ref l0), none, none] [.int s0] h (0, 0) (q_i Q) := by
  unfold f_X11_readsLine_43 at hw
  refine G_istore_n (lv' := [some (.ref l0), some (.int s0), none]) dX11_readsLine_43 (Nat.le_of_ble_eq_true rfl) rfl ?_
  refine G_iload_n dX11_readsLine_44 rfl ?_
  have hw := wp_if hw
  refine G_if_ge (tgt := 54) dX11_readsLine_45 rfl (fun c1 => ?_) (fun c1 => ?_)
  · have hw := hw.1 c1
    refine G_aload_n dX11_readsLine_54 rfl ?_
    obtain ⟨c2, hw⟩ := wp_ck hw
    refine G_getR fl_X11_lines w_1432 dX11_readsLine_55 c2 ?_
    obtain ⟨a3, ea3, hw⟩ := wp_rq hw
    refine G.sure ea3 ?_
    refine G_iconst (v := (5 : Int32)) dX11_readsLine_58 (by decide) ?_
    obtain ⟨c4, hw⟩ := wp_ck hw
    obtain ⟨c5, hw⟩ := wp_ck hw
    refine G_ialoadK (k := 5) dX11_readsLine_59 c4 (by decide) rfl c5 ?_
    refine G_bipush (v := (40 : Int32)) dX11_readsLine_60 (by decide) ?_
    have hw := wp_if hw
    refine G_icmp_ne (tgt := 71) dX11_readsLine_62 rfl (fun c6 => ?_) (fun c6 => ?_)
    · have hw := hw.2 c6
      refine G_aload_n dX11_readsLine_71 rfl ?_
      refine G_callV (As := []) (s_X11_nextToken hs l0 h _ (wp_cl hw)) ca_X11_nextToken w_1616 w_46 (ci := 10) rfl (by decide) w_1614 c2 (Nat.le_of_ble_eq_true rfl) (Nat.le_of_ble_eq_true rfl) rfl (Nat.le_of_ble_eq_true rfl) (Nat.le_of_ble_eq_true rfl) (Nat.le_of_ble_eq_true rfl) dX11_readsLine_72 rfl (fun v h8 hq => ?_)
      obtain ⟨rfl, hw⟩ := hq
      refine G.cse (cs' := (0, 0)) rfl ?_
      show GZ _ _ _ _ _ _ _ 75 _ [] _ _
      refine G_sipush (v := (200 : Int32)) dX11_readsLine_75 (by decide) ?_
      refine G_aload_n dX11_readsLine_78 rfl ?_
      obtain ⟨c9, hw⟩ := wp_ck hw
      refine G_getR fl_X11_lines w_1432 dX11_readsLine_79 c9 ?_
      obtain ⟨a10, ea10, hw⟩ := wp_rq hw
      refine G.sure ea10 ?_
      refine G_iconst (v := (5 : Int32)) dX11_readsLine_82 (by decide) ?_
      obtain ⟨c11, hw⟩ := wp_ck hw
      obtain ⟨c12, hw⟩ := wp_ck hw
      refine G_ialoadK (k := 5) dX11_readsLine_83 c11 (by decide) rfl c12 ?_
      refine G_iadd dX11_readsLine_84 ?_
      refine G.topi fun v13 ev13 => ?_
      have hw := wp_bd hw v13 ev13
      refine G_istore_n (lv' := [some (.ref l0), some (.int s0), some (.int v13)]) dX11_readsLine_85 (Nat.le_of_ble_eq_true rfl) rfl ?_
      refine G_aload_n dX11_readsLine_86 rfl ?_
      refine G_getR fl_X11_lineWhat w_1433 dX11_readsLine_87 c9 ?_
      obtain ⟨a14, ea14, hw⟩ := wp_rq hw
      refine G.sure ea14 ?_
      refine G_iload_n dX11_readsLine_90 rfl ?_
      refine G_iload_n dX11_readsLine_91 rfl ?_
      obtain ⟨c15, hw⟩ := wp_ck hw
      obtain ⟨c16, hw⟩ := wp_ck hw
      refine G_iastore dX11_readsLine_92 c15 c16 ?_
      refine G.nmh fun h17 eh17 => ?_
      have hw := wp_bd hw h17 eh17
      refine G_iload_n dX11_readsLine_93 rfl ?_
      have hw := wp_if hw
      refine G_if_ne (tgt := 105) dX11_readsLine_94 rfl (fun c18 => ?_) (fun c18 => ?_)
      · have hw := hw.2 c18
        refine G.less [some (.ref l0), some (.int s0), some (.int v13)] ⟨rfl, ⟨rfl, ⟨rfl, trivial⟩⟩⟩ ?_
        exact f_X11_readsLine_105_ok hs _ _ _ h17 Q hw
      · have hw := hw.1 c18
        refine G_aload_n dX11_readsLine_97 rfl ?_
        refine G_iload_n dX11_readsLine_98 rfl ?_
        obtain ⟨c21, hw⟩ := wp_ck hw
        refine G_callV (As := [.int v13]) (s_X11_readsBurn hs l0 v13 h17 _ (wp_cl hw)) ca_X11_readsBurn w_1770 w_74 (ci := 10) rfl (by decide) w_1768 c21 (Nat.le_of_ble_eq_true rfl) (Nat.le_of_ble_eq_true rfl) rfl (Nat.le_of_ble_eq_true rfl) (Nat.le_of_ble_eq_true rfl) (Nat.le_of_ble_eq_true rfl) dX11_readsLine_99 rfl (fun v h20 hq => ?_)
        obtain ⟨r19, rfl, hw⟩ := hq
        refine G.cse (cs' := (0, 0)) rfl ?_
        show GZ _ _ _ _ _ _ _ 102 _ (.int r19 :: []) _ _
        have hw := wp_if hw
        refine G_if_eq (tgt := 118) dX11_readsLine_102 rfl (fun c22 => ?_) (fun c22 => ?_)
        · have hw := hw.1 c22
          refine G_iconst (v := (0 : Int32)) dX11_readsLine_118 (by decide) ?_
          exact G_zreturn rfl dX11_readsLine_119 rfl ⟨_, rfl, wp_ret hw⟩
        · have hw := hw.2 c22
          refine G.less [some (.ref l0), some (.int s0), some (.int v13)] ⟨rfl, ⟨rfl, ⟨rfl, trivial⟩⟩⟩ ?_
          exact f_X11_readsLine_105_ok hs _ _ _ h20 Q hw
    · have hw := hw.1 c6
      refine G_aload_n dX11_readsLine_65 rfl ?_
      refine G_iconst (v := (5 : Int32)) dX11_readsLine_66 (by decide) ?_
      refine G_callV (As := [.int (5 : Int32)]) (s_X11_fails hs l0 (5 : Int32) h _ (wp_cl hw)) ca_X11_fails w_1635 w_50 (ci := 10) rfl (by decide) w_1633 c2 (Nat.le_of_ble_eq_true rfl) (Nat.le_of_ble_eq_true rfl) rfl (Nat.le_of_ble_eq_true rfl) (Nat.le_of_ble_eq_true rfl) (Nat.le_of_ble_eq_true rfl) dX11_readsLine_67 rfl (fun v h24 hq => ?_)
      obtain ⟨r23, rfl, hw⟩ := hq
      refine G.cse (cs' := (0, 0)) rfl ?_
      show GZ _ _ _ _ _ _ _ 70 _ (.int r23 :: []) _ _
      obtain ⟨c25, hw⟩ := wp_ck hw
      exact G_zreturn rfl dX11_readsLine_70 (g_nb c25) ⟨_, rfl, wp_ret hw⟩
  · have hw := hw.2 c1
    refine G_aload_n dX11_readsLine_48 rfl ?_
    refine G_iconst (v := (1 : Int32)) dX11_readsLine_49 (by decide) ?_
    obtain ⟨c28, hw⟩ := wp_ck hw
    refine G_callV (As := [.int (1 : Int32)]) (s_X11_fails hs l0 (1 : Int32) h _ (wp_cl hw)) ca_X11_fails w_1635 w_50 (ci := 10) rfl (by decide) w_1633 c28 (Nat.le_of_ble_eq_true rfl) (Nat.le_of_ble_eq_true rfl) rfl (Nat.le_of_ble_eq_true rfl) (Nat.le_of_ble_eq_true rfl) (Nat.le_of_ble_eq_true rfl) dX11_readsLine_50 rfl (fun v h27 hq => ?_)
    obtain ⟨r26, rfl, hw⟩ := hq
    refine G.cse (cs' := (0, 0)) rfl ?_
    show GZ _ _ _ _ _ _ _ 53 _ (.int r26 :: []) _ _
    obtain ⟨c29, hw⟩ := wp_ck hw
    exact G_zreturn rfl dX11_readsLine_53 (g_nb c29) ⟨_, rfl, wp_ret hw⟩
set_option maxHeartbeats 4000000 in
set_option maxRecDepth 100000 in
theorem s_X11_readsLine {Γ : GX} (hs : SF Γ) {N : Nat} (l0 : Nat) (h : PH) (Q : Int32 → PH → Prop) (hw : wp (f_X11_readsLine N l0 h) Q) : Spec Γ yX11_readsLine cX11_readsLine 3 (some .boolean) (5, 0, 0) [.ref l0] h (q_i Q) := by
  refine Spec.of (by decide) (Nat.le_of_ble_eq_true rfl) [some (.ref l0), none, none] rfl ?_
  unfold f_X11_readsLine at hw
  refine G_aload_n dX11_readsLine_0 rfl ?_
  refine G_ldc2 (v := (55175 : Int64)) dX11_readsLine_1 w_1660 ?_
  obtain ⟨c3, hw⟩ := wp_ck hw
  refine G_callV (As := [.long (55175 : Int64)]) (s_X11_isWord hs l0 (55175 : Int64) h _ (wp_cl hw)) ca_X11_isWord w_1627 w_48 (ci := 10) rfl (by decide) w_1625 c3 (Nat.le_of_ble_eq_true rfl) (Nat.le_of_ble_eq_true rfl) rfl (Nat.le_of_ble_eq_true rfl) (Nat.le_of_ble_eq_true rfl) (Nat.le_of_ble_eq_true rfl) dX11_readsLine_4 rfl (fun v h2 hq => ?_)
  obtain ⟨r1, rfl, hw⟩ := hq
  refine G.cse (cs' := (0, 0)) rfl ?_
  show GZ _ _ _ _ _ _ _ 7 _ (.int r1 :: []) _ _
  have hw := wp_if hw
  refine G_if_eq (tgt := 14) dX11_readsLine_7 rfl (fun c4 => ?_) (fun c4 => ?_)
  · have hw := hw.1 c4
    refine G_aload_n dX11_readsLine_14 rfl ?_
    refine G_ldc2 (v := (240223 : Int64)) dX11_readsLine_15 w_1661 ?_
    obtain ⟨c7, hw⟩ := wp_ck hw
    refine G_callV (As := [.long (240223 : Int64)]) (s_X11_isWord hs l0 (240223 : Int64) h2 _ (wp_cl hw)) ca_X11_isWord w_1627 w_48 (ci := 10) rfl (by decide) w_1625 c7 (Nat.le_of_ble_eq_true rfl) (Nat.le_of_ble_eq_true rfl) rfl (Nat.le_of_ble_eq_true rfl) (Nat.le_of_ble_eq_true rfl) (Nat.le_of_ble_eq_true rfl) dX11_readsLine_18 rfl (fun v h6 hq => ?_)
    obtain ⟨r5, rfl, hw⟩ := hq
    refine G.cse (cs' := (0, 0)) rfl ?_
    show GZ _ _ _ _ _ _ _ 21 _ (.int r5 :: []) _ _
    have hw := wp_if hw
    refine G_if_eq (tgt := 28) dX11_readsLine_21 rfl (fun c8 => ?_) (fun c8 => ?_)
    · have hw := hw.1 c8
      refine G_aload_n dX11_readsLine_28 rfl ?_
      refine G_ldc2 (v := (168984 : Int64)) dX11_readsLine_29 w_1662 ?_
      obtain ⟨c11, hw⟩ := wp_ck hw
      refine G_callV (As := [.long (168984 : Int64)]) (s_X11_isWord hs l0 (168984 : Int64) h6 _ (wp_cl hw)) ca_X11_isWord w_1627 w_48 (ci := 10) rfl (by decide) w_1625 c11 (Nat.le_of_ble_eq_true rfl) (Nat.le_of_ble_eq_true rfl) rfl (Nat.le_of_ble_eq_true rfl) (Nat.le_of_ble_eq_true rfl) (Nat.le_of_ble_eq_true rfl) dX11_readsLine_32 rfl (fun v h10 hq => ?_)
      obtain ⟨r9, rfl, hw⟩ := hq
      refine G.cse (cs' := (0, 0)) rfl ?_
      show GZ _ _ _ _ _ _ _ 35 _ (.int r9 :: []) _ _
      have hw := wp_if hw
      refine G_if_eq (tgt := 42) dX11_readsLine_35 rfl (fun c12 => ?_) (fun c12 => ?_)
      · have hw := hw.1 c12
        refine G_iconst (v := (-1 : Int32)) dX11_readsLine_42 (by decide) ?_
        refine G.less [some (.ref l0), none, none] ⟨rfl, trivial⟩ ?_
        exact f_X11_readsLine_43_ok hs _ _ h10 Q hw
      · have hw := hw.2 c12
        refine G_iconst (v := (2 : Int32)) dX11_readsLine_38 (by decide) ?_
        refine G_goto (tgt := 43) dX11_readsLine_39 rfl ?_
        refine G.less [some (.ref l0), none, none] ⟨rfl, trivial⟩ ?_
        exact f_X11_readsLine_43_ok hs _ _ h10 Q hw
    · have hw := hw.2 c8
      refine G_iconst (v := (1 : Int32)) dX11_readsLine_24 (by decide) ?_
      refine G_goto (tgt := 43) dX11_readsLine_25 rfl ?_
      refine G.less [some (.ref l0), none, none] ⟨rfl, trivial⟩ ?_
      exact f_X11_readsLine_43_ok hs _ _ h6 Q hw
  · have hw := hw.2 c4
    refine G_iconst (v := (0 : Int32)) dX11_readsLine_10 (by decide) ?_
    refine G_goto (tgt := 43) dX11_readsLine_11 rfl ?_
    refine G.less [some (.ref l0), none, none] ⟨rfl, trivial⟩ ?_
    exact f_X11_readsLine_43_ok hs _ _ h2 Q hw
