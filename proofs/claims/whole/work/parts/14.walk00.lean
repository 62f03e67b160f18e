set_option maxHeartbeats 4000000 in
set_option maxRecDepth 100000 in
theorem s_X5_init {Γ : GX} (hs : SF Γ) {N : Nat} (l0 : Nat) (h : PH) (Q : Unit → PH → Prop) (hw : wp (f_X5_init N l0 h) Q) : Spec Γ yX5_init cX5_init 1 none (2, 1, 1000) [.ref l0] h (q_u Q) := by
  refine Spec.of (by decide) (Nat.le_of_ble_eq_true rfl) [some (.ref l0)] rfl ?_
  unfold f_X5_init at hw
  refine G_aload_n dX5_init_0 rfl ?_
  refine G_objInit w_167 w_160 w_161 dX5_init_1 (Nat.le_of_ble_eq_true rfl) (Nat.le_of_ble_eq_true rfl) ?_
  refine G_aload_n dX5_init_4 rfl ?_
  refine G_sipush (v := (1000 : Int32)) dX5_init_5 (by decide) ?_
  refine G_newarray11 (n := 1000) dX5_init_8 w_200 (by decide) rfl (Nat.le_of_ble_eq_true rfl) (Nat.le_of_ble_eq_true rfl) (Nat.le_of_ble_eq_true rfl) ?_
  refine G.cse (cs' := (1, 1000)) rfl ?_
  obtain ⟨a1, ea1⟩ : ∃ z : Nat, z = hz h := ⟨_, rfl⟩
  rw [← ea1]
  have hw := wp_bd hw a1 ea1
  refine G.nmh fun h2 eh2 => ?_
  have hw := wp_bd hw h2 eh2
  obtain ⟨c3, hw⟩ := wp_ck hw
  refine G_putFR (v := (some a1)) fl_X5_signs (Or.inr ⟨_, rfl⟩) w_168 rfl rfl dX5_init_10 c3 ?_
  refine G.nmh fun h4 eh4 => ?_
  have hw := wp_bd hw h4 eh4
  exact G_vreturn rfl dX5_init_13 ⟨rfl, wp_ret hw⟩
set_option maxHeartbeats 4000000 in
set_option maxRecDepth 100000 in
theorem f_J7_fill_53178_5_bok {Γ : GX} (hs : SF Γ) {N : Nat} {K_5 : Nat → Int32 → Int32 → Int32 → PH → Option (Unit × PH)} (hK_5 : ∀ (l0 : Nat) (l1 : Int32) (l2 : Int32) (l3 : Int32) (h : PH) (Q : Unit → PH → Prop), wp (K_5 l0 l1 l2 l3 h) Q → G Γ yJ7_fill_53178 cJ7_fill_53178 4 none (1, 0, 0) 5 [some (.ref l0), some (.int l1), some (.int l2), some (.int l3)] [] h (0, 0) (q_u Q)) (l0 : Nat) (l1 : Int32) (l2 : Int32) (l3 : Int32) (h : PH) (Q : Unit → PH → Prop) (hw : wp (f_J7_fill_53178_5_b N K_5 l0 l1 l2 l3 h) Q) : G Γ yJ7_fill_53178 cJ7_fill_53178 4 none (1, 0, 0) 5 [some (.ref l0), some (.int l1), some (.int l2), some (.int l3)] [] h (0, 0) (q_u Q) := by
  unfold f_J7_fill_53178_5_b at hw
  refine G_iload_n dJ7_fill_53178_5 rfl ?_
  refine G_iload_n dJ7_fill_53178_6 rfl ?_
  have hw := wp_if hw
  refine G_icmp_ge (tgt := 20) dJ7_fill_53178_7 rfl (fun c1 => ?_) (fun c1 => ?_)
  · have hw := hw.1 c1
    exact G_vreturn rfl dJ7_fill_53178_20 ⟨rfl, wp_ret hw⟩
  · have hw := hw.2 c1
    refine G_aload_n dJ7_fill_53178_10 rfl ?_
    refine G_iload_n dJ7_fill_53178_11 rfl ?_
    refine G_iload_n dJ7_fill_53178_12 rfl ?_
    obtain ⟨c2, hw⟩ := wp_ck hw
    obtain ⟨c3, hw⟩ := wp_ck hw
    refine G_iastore dJ7_fill_53178_13 c2 c3 ?_
    refine G.nmh fun h4 eh4 => ?_
    have hw := wp_bd hw h4 eh4
    obtain ⟨v5, ev5⟩ : ∃ z : Int32, z = l2 + (1 : Int32) := ⟨_, rfl⟩
    have hw := wp_bd hw v5 ev5
    refine G_iinc (v := v5) (lv' := [some (.ref l0), some (.int l1), some (.int v5), some (.int l3)]) dJ7_fill_53178_14 rfl (by rw [ev5]; rfl) (Nat.le_of_ble_eq_true rfl) rfl ?_
    refine G_goto (tgt := 5) dJ7_fill_53178_17 rfl ?_
    refine G.less [some (.ref l0), some (.int l1), some (.int v5), some (.int l3)] ⟨rfl, ⟨rfl, ⟨rfl, ⟨rfl, trivial⟩⟩⟩⟩ ?_
    exact hK_5 _ _ _ _ h4 Q hw
theorem f_J7_fill_53178_5_ok {Γ : GX} (hs : SF Γ) {N : Nat} : ∀ (n : Nat) (l0 : Nat) (l1 : Int32) (l2 : Int32) (l3 : Int32) (h : PH) (Q : Unit → PH → Prop), wp (f_J7_fill_53178_5 N n l0 l1 l2 l3 h) Q → G Γ yJ7_fill_53178 cJ7_fill_53178 4 none (1, 0, 0) 5 [some (.ref l0), some (.int l1), some (.int l2), some (.int l3)] [] h (0, 0) (q_u Q)
  | 0, _, _, _, _, _, Q, hw => (wp_no hw).elim
  | n + 1, l0, l1, l2, l3, h, Q, hw => f_J7_fill_53178_5_bok (N := N) hs (f_J7_fill_53178_5_ok (N := N) hs n) l0 l1 l2 l3 h Q hw
set_option maxHeartbeats 4000000 in
set_option maxRecDepth 100000 in
theorem s_J7_fill_53178 {Γ : GX} (hs : SF Γ) {N : Nat} (l0 : Nat) (l1 : Int32) (h : PH) (Q : Unit → PH → Prop) (hw : wp (f_J7_fill_53178 N l0 l1 h) Q) : Spec Γ yJ7_fill_53178 cJ7_fill_53178 4 none (1, 0, 0) [.ref l0, .int l1] h (q_u Q) := by
  refine Spec.of (by decide) (Nat.le_of_ble_eq_true rfl) [some (.ref l0), some (.int l1), none, none] rfl ?_
  unfold f_J7_fill_53178 at hw
  refine G_iconst (v := (0 : Int32)) dJ7_fill_53178_0 (by decide) ?_
  refine G_istore_n (lv' := [some (.ref l0), some (.int l1), some (.int (0 : Int32)), none]) dJ7_fill_53178_1 (Nat.le_of_ble_eq_true rfl) rfl ?_
  refine G_aload_n dJ7_fill_53178_2 rfl ?_
  obtain ⟨c1, hw⟩ := wp_ck hw
  refine G_alen12 dJ7_fill_53178_3 c1 ?_
  refine G.topi fun v2 ev2 => ?_
  have hw := wp_bd hw v2 ev2
  refine G_istore_n (lv' := [some (.ref l0), some (.int l1), some (.int (0 : Int32)), some (.int v2)]) dJ7_fill_53178_4 (Nat.le_of_ble_eq_true rfl) rfl ?_
  refine G.less [some (.ref l0), some (.int l1), some (.int (0 : Int32)), some (.int v2)] ⟨rfl, ⟨rfl, ⟨rfl, ⟨rfl, trivial⟩⟩⟩⟩ ?_
  exact f_J7_fill_53178_5_ok hs N _ _ _ _ h Q hw
set_option maxHeartbeats 4000000 in
set_option maxRecDepth 100000 in
theorem s_X4_init {Γ : GX} (hs : SF Γ) {N : Nat} (l0 : Nat) (h : PH) (Q : Unit → PH → Prop) (hw : wp (f_X4_init N l0 h) Q) : Spec Γ yX4_init cX4_init 1 none (2, 4, 31) [.ref l0] h (q_u Q) := by
  refine Spec.of (by decide) (Nat.le_of_ble_eq_true rfl) [some (.ref l0)] rfl ?_
  unfold f_X4_init at hw
  refine G_aload_n dX4_init_0 rfl ?_
  refine G_objInit w_212 w_160 w_161 dX4_init_1 (Nat.le_of_ble_eq_true rfl) (Nat.le_of_ble_eq_true rfl) ?_
  refine G_aload_n dX4_init_4 rfl ?_
  refine G_bipush (v := (20 : Int32)) dX4_init_5 (by decide) ?_
  refine G_newarray12 (n := 20) dX4_init_7 w_240 (by decide) rfl (Nat.le_of_ble_eq_true rfl) (Nat.le_of_ble_eq_true rfl) (Nat.le_of_ble_eq_true rfl) ?_
  refine G.cse (cs' := (1, 20)) rfl ?_
  obtain ⟨a1, ea1⟩ : ∃ z : Nat, z = hz h := ⟨_, rfl⟩
  rw [← ea1]
  have hw := wp_bd hw a1 ea1
  refine G.nmh fun h2 eh2 => ?_
  have hw := wp_bd hw h2 eh2
  obtain ⟨c3, hw⟩ := wp_ck hw
  refine G_putFR (v := (some a1)) fl_X4_stock (Or.inr ⟨_, rfl⟩) w_220 rfl rfl dX4_init_9 c3 ?_
  refine G.nmh fun h4 eh4 => ?_
  have hw := wp_bd hw h4 eh4
  refine G_aload_n dX4_init_12 rfl ?_
  refine G_iconst (v := (4 : Int32)) dX4_init_13 (by decide) ?_
  refine G_newarray12 (n := 4) dX4_init_14 w_240 (by decide) rfl (Nat.le_of_ble_eq_true rfl) (Nat.le_of_ble_eq_true rfl) (Nat.le_of_ble_eq_true rfl) ?_
  refine G.cse (cs' := (2, 24)) rfl ?_
  obtain ⟨a5, ea5⟩ : ∃ z : Nat, z = hz h4 := ⟨_, rfl⟩
  rw [← ea5]
  have hw := wp_bd hw a5 ea5
  refine G.nmh fun h6 eh6 => ?_
  have hw := wp_bd hw h6 eh6
  obtain ⟨c7, hw⟩ := wp_ck hw
  refine G_putFR (v := (some a5)) fl_X4_fuel (Or.inr ⟨_, rfl⟩) w_221 rfl rfl dX4_init_16 c7 ?_
  refine G.nmh fun h8 eh8 => ?_
  have hw := wp_bd hw h8 eh8
  refine G_aload_n dX4_init_19 rfl ?_
  refine G_iconst (v := (4 : Int32)) dX4_init_20 (by decide) ?_
  refine G_newarray12 (n := 4) dX4_init_21 w_240 (by decide) rfl (Nat.le_of_ble_eq_true rfl) (Nat.le_of_ble_eq_true rfl) (Nat.le_of_ble_eq_true rfl) ?_
  refine G.cse (cs' := (3, 28)) rfl ?_
  obtain ⟨a9, ea9⟩ : ∃ z : Nat, z = hz h8 := ⟨_, rfl⟩
  rw [← ea9]
  have hw := wp_bd hw a9 ea9
  refine G.nmh fun h10 eh10 => ?_
  have hw := wp_bd hw h10 eh10
  obtain ⟨c11, hw⟩ := wp_ck hw
  refine G_putFR (v := (some a9)) fl_X4_left (Or.inr ⟨_, rfl⟩) w_224 rfl rfl dX4_init_23 c11 ?_
  refine G.nmh fun h12 eh12 => ?_
  have hw := wp_bd hw h12 eh12
  refine G_aload_n dX4_init_26 rfl ?_
  refine G_iconst (v := (3 : Int32)) dX4_init_27 (by decide) ?_
  refine G_newarray12 (n := 3) dX4_init_28 w_240 (by decide) rfl (Nat.le_of_ble_eq_true rfl) (Nat.le_of_ble_eq_true rfl) (Nat.le_of_ble_eq_true rfl) ?_
  refine G.cse (cs' := (4, 31)) rfl ?_
  obtain ⟨a13, ea13⟩ : ∃ z : Nat, z = hz h12 := ⟨_, rfl⟩
  rw [← ea13]
  have hw := wp_bd hw a13 ea13
  refine G.nmh fun h14 eh14 => ?_
  have hw := wp_bd hw h14 eh14
  obtain ⟨c15, hw⟩ := wp_ck hw
  refine G_putFR (v := (some a13)) fl_X4_soot (Or.inr ⟨_, rfl⟩) w_227 rfl rfl dX4_init_30 c15 ?_
  refine G.nmh fun h16 eh16 => ?_
  have hw := wp_bd hw h16 eh16
  refine G_aload_n dX4_init_33 rfl ?_
  obtain ⟨c17, hw⟩ := wp_ck hw
  refine G_getR fl_X4_fuel w_221 dX4_init_34 c17 ?_
  obtain ⟨a18, ea18, hw⟩ := wp_rq hw
  refine G.sure ea18 ?_
  refine G_iconst (v := (-1 : Int32)) dX4_init_37 (by decide) ?_
  refine G_callS (As := [.ref a18, .int (-1 : Int32)]) (s_J7_fill_53178 hs a18 (-1 : Int32) h16 _ (wp_cl hw)) ca_J7_fill_53178 w_214 w_213 (Nat.le_of_ble_eq_true rfl) (Nat.le_of_ble_eq_true rfl) rfl (Nat.le_of_ble_eq_true rfl) (Nat.le_of_ble_eq_true rfl) (Nat.le_of_ble_eq_true rfl) dX4_init_38 rfl (fun v h20 hq => ?_)
  obtain ⟨rfl, hw⟩ := hq
  refine G.cse (cs' := (4, 31)) rfl ?_
  show GZ _ _ _ _ _ _ _ 41 _ [] _ _
  exact G_vreturn rfl dX4_init_41 ⟨rfl, wp_ret hw⟩
set_option maxHeartbeats 4000000 in
set_option maxRecDepth 100000 in
theorem s_X0_init {Γ : GX} (hs : SF Γ) {N : Nat} (l0 : Nat) (h : PH) (Q : Unit → PH → Prop) (hw : wp (f_X0_init N l0 h) Q) : Spec Γ yX0_init cX0_init 1 none (2, 1, 200) [.ref l0] h (q_u Q) := by
  refine Spec.of (by decide) (Nat.le_of_ble_eq_true rfl) [some (.ref l0)] rfl ?_
  unfold f_X0_init at hw
  refine G_aload_n dX0_init_0 rfl ?_
  refine G_objInit w_246 w_160 w_161 dX0_init_1 (Nat.le_of_ble_eq_true rfl) (Nat.le_of_ble_eq_true rfl) ?_
  refine G_aload_n dX0_init_4 rfl ?_
  refine G_sipush (v := (200 : Int32)) dX0_init_5 (by decide) ?_
  refine G_newarray12 (n := 200) dX0_init_8 w_240 (by decide) rfl (Nat.le_of_ble_eq_true rfl) (Nat.le_of_ble_eq_true rfl) (Nat.le_of_ble_eq_true rfl) ?_
  refine G.cse (cs' := (1, 200)) rfl ?_
  obtain ⟨a1, ea1⟩ : ∃ z : Nat, z = hz h := ⟨_, rfl⟩
  rw [← ea1]
  have hw := wp_bd hw a1 ea1
  refine G.nmh fun h2 eh2 => ?_
  have hw := wp_bd hw h2 eh2
  obtain ⟨c3, hw⟩ := wp_ck hw
  refine G_putFR (v := (some a1)) fl_X0_cells (Or.inr ⟨_, rfl⟩) w_247 rfl rfl dX0_init_10 c3 ?_
  refine G.nmh fun h4 eh4 => ?_
  have hw := wp_bd hw h4 eh4
  exact G_vreturn rfl dX0_init_13 ⟨rfl, wp_ret hw⟩
set_option maxHeartbeats 4000000 in
set_option maxRecDepth 100000 in
theorem s_X2_init {Γ : GX} (hs : SF Γ) {N : Nat} (l0 : Nat) (h : PH) (Q : Unit → PH → Prop) (hw : wp (f_X2_init N l0 h) Q) : Spec Γ yX2_init cX2_init 1 none (3, 10, 262) [.ref l0] h (q_u Q) := by
  refine Spec.of (by decide) (Nat.le_of_ble_eq_true rfl) [some (.ref l0)] rfl ?_
  unfold f_X2_init at hw
  refine G_aload_n dX2_init_0 rfl ?_
  refine G_objInit w_206 w_160 w_161 dX2_init_1 (Nat.le_of_ble_eq_true rfl) (Nat.le_of_ble_eq_true rfl) ?_
  refine G_aload_n dX2_init_4 rfl ?_
  refine G_new kl_X4 w_207 dX2_init_5 (Nat.le_of_ble_eq_true rfl) (Nat.le_of_ble_eq_true rfl) ?_
  refine G.cse (cs' := (1, 5)) rfl ?_
  obtain ⟨a1, ea1⟩ : ∃ z : Nat, z = hz h := ⟨_, rfl⟩
  rw [← ea1]
  have hw := wp_bd hw a1 ea1
  refine G.nmh fun h2 eh2 => ?_
  have hw := wp_bd hw h2 eh2
  refine G_dup dX2_init_8 rfl ?_
  refine G_callI (As := []) (s_X4_init hs a1 h2 _ (wp_cl hw)) ca_X4_init rfl w_210 w_209 (Nat.le_of_ble_eq_true rfl) (Nat.le_of_ble_eq_true rfl) rfl (Nat.le_of_ble_eq_true rfl) (Nat.le_of_ble_eq_true rfl) (Nat.le_of_ble_eq_true rfl) dX2_init_9 rfl (fun v h4 hq => ?_)
  obtain ⟨rfl, hw⟩ := hq
  refine G.cse (cs' := (5, 36)) rfl ?_
  show GZ _ _ _ _ _ _ _ 12 _ [.ref a1, .ref l0] _ _
  obtain ⟨c5, hw⟩ := wp_ck hw
  refine G_putFR (v := (some a1)) fl_X2_state (Or.inl ⟨_, rfl⟩) w_255 rfl rfl dX2_init_12 c5 ?_
  refine G.nmh fun h6 eh6 => ?_
  have hw := wp_bd hw h6 eh6
  refine G_aload_n dX2_init_15 rfl ?_
  refine G_new kl_X0 w_241 dX2_init_16 (Nat.le_of_ble_eq_true rfl) (Nat.le_of_ble_eq_true rfl) ?_
  refine G.cse (cs' := (6, 38)) rfl ?_
  obtain ⟨a7, ea7⟩ : ∃ z : Nat, z = hz h6 := ⟨_, rfl⟩
  rw [← ea7]
  have hw := wp_bd hw a7 ea7
  refine G.nmh fun h8 eh8 => ?_
  have hw := wp_bd hw h8 eh8
  refine G_dup dX2_init_19 rfl ?_
  refine G_callIN (As := []) (s_X0_init hs a7 h8 _ (wp_cl hw)) ca_X0_init rfl w_244 w_243 (Nat.le_of_ble_eq_true rfl) (Nat.le_of_ble_eq_true rfl) rfl (Nat.le_of_ble_eq_true rfl) (Nat.le_of_ble_eq_true rfl) (Nat.le_of_ble_eq_true rfl) dX2_init_20 rfl (fun v h10 hq => ?_)
  obtain ⟨rfl, hw⟩ := hq
  refine G.cse (cs' := (7, 238)) rfl ?_
  show GZ _ _ _ _ _ _ _ 23 _ [.ref a7, .ref l0] _ _
  obtain ⟨c11, hw⟩ := wp_ck hw
  refine G_putFR (v := (some a7)) fl_X2_day (Or.inl ⟨_, rfl⟩) w_258 rfl rfl dX2_init_23 c11 ?_
  refine G.nmh fun h12 eh12 => ?_
  have hw := wp_bd hw h12 eh12
  refine G_aload_n dX2_init_26 rfl ?_
  refine G_bipush (v := (8 : Int32)) dX2_init_27 (by decide) ?_
  refine G_newarray12 (n := 8) dX2_init_29 w_240 (by decide) rfl (Nat.le_of_ble_eq_true rfl) (Nat.le_of_ble_eq_true rfl) (Nat.le_of_ble_eq_true rfl) ?_
  refine G.cse (cs' := (8, 246)) rfl ?_
  obtain ⟨a13, ea13⟩ : ∃ z : Nat, z = hz h12 := ⟨_, rfl⟩
  rw [← ea13]
  have hw := wp_bd hw a13 ea13
  refine G.nmh fun h14 eh14 => ?_
  have hw := wp_bd hw h14 eh14
  obtain ⟨c15, hw⟩ := wp_ck hw
  refine G_putFR (v := (some a13)) fl_X2_readWatcher (Or.inr ⟨_, rfl⟩) w_260 rfl rfl dX2_init_31 c15 ?_
  refine G.nmh fun h16 eh16 => ?_
  have hw := wp_bd hw h16 eh16
  refine G_aload_n dX2_init_34 rfl ?_
  refine G_bipush (v := (8 : Int32)) dX2_init_35 (by decide) ?_
  refine G_newarray12 (n := 8) dX2_init_37 w_240 (by decide) rfl (Nat.le_of_ble_eq_true rfl) (Nat.le_of_ble_eq_true rfl) (Nat.le_of_ble_eq_true rfl) ?_
  refine G.cse (cs' := (9, 254)) rfl ?_
  obtain ⟨a17, ea17⟩ : ∃ z : Nat, z = hz h16 := ⟨_, rfl⟩
  rw [← ea17]
  have hw := wp_bd hw a17 ea17
  refine G.nmh fun h18 eh18 => ?_
  have hw := wp_bd hw h18 eh18
  obtain ⟨c19, hw⟩ := wp_ck hw
  refine G_putFR (v := (some a17)) fl_X2_readFlue (Or.inr ⟨_, rfl⟩) w_261 rfl rfl dX2_init_39 c19 ?_
  refine G.nmh fun h20 eh20 => ?_
  have hw := wp_bd hw h20 eh20
  refine G_aload_n dX2_init_42 rfl ?_
  refine G_bipush (v := (8 : Int32)) dX2_init_43 (by decide) ?_
  refine G_newarray12 (n := 8) dX2_init_45 w_240 (by decide) rfl (Nat.le_of_ble_eq_true rfl) (Nat.le_of_ble_eq_true rfl) (Nat.le_of_ble_eq_true rfl) ?_
  refine G.cse (cs' := (10, 262)) rfl ?_
  obtain ⟨a21, ea21⟩ : ∃ z : Nat, z = hz h20 := ⟨_, rfl⟩
  rw [← ea21]
  have hw := wp_bd hw a21 ea21
  refine G.nmh fun h22 eh22 => ?_
  have hw := wp_bd hw h22 eh22
  obtain ⟨c23, hw⟩ := wp_ck hw
  refine G_putFR (v := (some a21)) fl_X2_readSign (Or.inr ⟨_, rfl⟩) w_262 rfl rfl dX2_init_47 c23 ?_
  refine G.nmh fun h24 eh24 => ?_
  have hw := wp_bd hw h24 eh24
  exact G_vreturn rfl dX2_init_50 ⟨rfl, wp_ret hw⟩
set_option maxHeartbeats 4000000 in
set_option maxRecDepth 100000 in
theorem s_X8_init {Γ : GX} (hs : SF Γ) {N : Nat} (l0 : Nat) (h : PH) (Q : Unit → PH → Prop) (hw : wp (f_X8_init N l0 h) Q) : Spec Γ yX8_init cX8_init 1 none (2, 7, 2023) [.ref l0] h (q_u Q) := by
  refine Spec.of (by decide) (Nat.le_of_ble_eq_true rfl) [some (.ref l0)] rfl ?_
  unfold f_X8_init at hw
  refine G_aload_n dX8_init_0 rfl ?_
  refine G_objInit w_289 w_160 w_161 dX8_init_1 (Nat.le_of_ble_eq_true rfl) (Nat.le_of_ble_eq_true rfl) ?_
  refine G_aload_n dX8_init_4 rfl ?_
  refine G_iconst (v := (4 : Int32)) dX8_init_5 (by decide) ?_
  refine G_newarray12 (n := 4) dX8_init_6 w_240 (by decide) rfl (Nat.le_of_ble_eq_true rfl) (Nat.le_of_ble_eq_true rfl) (Nat.le_of_ble_eq_true rfl) ?_
  refine G.cse (cs' := (1, 4)) rfl ?_
  obtain ⟨a1, ea1⟩ : ∃ z : Nat, z = hz h := ⟨_, rfl⟩
  rw [← ea1]
  have hw := wp_bd hw a1 ea1
  refine G.nmh fun h2 eh2 => ?_
  have hw := wp_bd hw h2 eh2
  obtain ⟨c3, hw⟩ := wp_ck hw
  refine G_putFR (v := (some a1)) fl_X8_houses (Or.inr ⟨_, rfl⟩) w_290 rfl rfl dX8_init_8 c3 ?_
  refine G.nmh fun h4 eh4 => ?_
  have hw := wp_bd hw h4 eh4
  refine G_aload_n dX8_init_11 rfl ?_
  refine G_iconst (v := (4 : Int32)) dX8_init_12 (by decide) ?_
  refine G_newarray12 (n := 4) dX8_init_13 w_240 (by decide) rfl (Nat.le_of_ble_eq_true rfl) (Nat.le_of_ble_eq_true rfl) (Nat.le_of_ble_eq_true rfl) ?_
  refine G.cse (cs' := (2, 8)) rfl ?_
  obtain ⟨a5, ea5⟩ : ∃ z : Nat, z = hz h4 := ⟨_, rfl⟩
  rw [← ea5]
  have hw := wp_bd hw a5 ea5
  refine G.nmh fun h6 eh6 => ?_
  have hw := wp_bd hw h6 eh6
  obtain ⟨c7, hw⟩ := wp_ck hw
  refine G_putFR (v := (some a5)) fl_X8_choices (Or.inr ⟨_, rfl⟩) w_291 rfl rfl dX8_init_15 c7 ?_
  refine G.nmh fun h8 eh8 => ?_
  have hw := wp_bd hw h8 eh8
  refine G_aload_n dX8_init_18 rfl ?_
  refine G_iconst (v := (4 : Int32)) dX8_init_19 (by decide) ?_
  refine G_newarray12 (n := 4) dX8_init_20 w_240 (by decide) rfl (Nat.le_of_ble_eq_true rfl) (Nat.le_of_ble_eq_true rfl) (Nat.le_of_ble_eq_true rfl) ?_
  refine G.cse (cs' := (3, 12)) rfl ?_
  obtain ⟨a9, ea9⟩ : ∃ z : Nat, z = hz h8 := ⟨_, rfl⟩
  rw [← ea9]
  have hw := wp_bd hw a9 ea9
  refine G.nmh fun h10 eh10 => ?_
  have hw := wp_bd hw h10 eh10
  obtain ⟨c11, hw⟩ := wp_ck hw
  refine G_putFR (v := (some a9)) fl_X8_chosen (Or.inr ⟨_, rfl⟩) w_292 rfl rfl dX8_init_22 c11 ?_
  refine G.nmh fun h12 eh12 => ?_
  have hw := wp_bd hw h12 eh12
  refine G_aload_n dX8_init_25 rfl ?_
  refine G_iconst (v := (4 : Int32)) dX8_init_26 (by decide) ?_
  refine G_newarray12 (n := 4) dX8_init_27 w_240 (by decide) rfl (Nat.le_of_ble_eq_true rfl) (Nat.le_of_ble_eq_true rfl) (Nat.le_of_ble_eq_true rfl) ?_
  refine G.cse (cs' := (4, 16)) rfl ?_
  obtain ⟨a13, ea13⟩ : ∃ z : Nat, z = hz h12 := ⟨_, rfl⟩
  rw [← ea13]
  have hw := wp_bd hw a13 ea13
  refine G.nmh fun h14 eh14 => ?_
  have hw := wp_bd hw h14 eh14
  obtain ⟨c15, hw⟩ := wp_ck hw
  refine G_putFR (v := (some a13)) fl_X8_same (Or.inr ⟨_, rfl⟩) w_293 rfl rfl dX8_init_29 c15 ?_
  refine G.nmh fun h16 eh16 => ?_
  have hw := wp_bd hw h16 eh16
  refine G_aload_n dX8_init_32 rfl ?_
  refine G_sipush (v := (1000 : Int32)) dX8_init_33 (by decide) ?_
  refine G_newarray12 (n := 1000) dX8_init_36 w_240 (by decide) rfl (Nat.le_of_ble_eq_true rfl) (Nat.le_of_ble_eq_true rfl) (Nat.le_of_ble_eq_true rfl) ?_
  refine G.cse (cs' := (5, 1016)) rfl ?_
  obtain ⟨a17, ea17⟩ : ∃ z : Nat, z = hz h16 := ⟨_, rfl⟩
  rw [← ea17]
  have hw := wp_bd hw a17 ea17
  refine G.nmh fun h18 eh18 => ?_
  have hw := wp_bd hw h18 eh18
  obtain ⟨c19, hw⟩ := wp_ck hw
  refine G_putFR (v := (some a17)) fl_X8_darkSeen (Or.inr ⟨_, rfl⟩) w_294 rfl rfl dX8_init_38 c19 ?_
  refine G.nmh fun h20 eh20 => ?_
  have hw := wp_bd hw h20 eh20
  refine G_aload_n dX8_init_41 rfl ?_
  refine G_sipush (v := (1000 : Int32)) dX8_init_42 (by decide) ?_
  refine G_newarray12 (n := 1000) dX8_init_45 w_240 (by decide) rfl (Nat.le_of_ble_eq_true rfl) (Nat.le_of_ble_eq_true rfl) (Nat.le_of_ble_eq_true rfl) ?_
  refine G.cse (cs' := (6, 2016)) rfl ?_
  obtain ⟨a21, ea21⟩ : ∃ z : Nat, z = hz h20 := ⟨_, rfl⟩
  rw [← ea21]
  have hw := wp_bd hw a21 ea21
  refine G.nmh fun h22 eh22 => ?_
  have hw := wp_bd hw h22 eh22
  obtain ⟨c23, hw⟩ := wp_ck hw
  refine G_putFR (v := (some a21)) fl_X8_sweetSeen (Or.inr ⟨_, rfl⟩) w_295 rfl rfl dX8_init_47 c23 ?_
  refine G.nmh fun h24 eh24 => ?_
  have hw := wp_bd hw h24 eh24
  refine G_aload_n dX8_init_50 rfl ?_
  refine G_bipush (v := (7 : Int32)) dX8_init_51 (by decide) ?_
  refine G_newarray12 (n := 7) dX8_init_53 w_240 (by decide) rfl (Nat.le_of_ble_eq_true rfl) (Nat.le_of_ble_eq_true rfl) (Nat.le_of_ble_eq_true rfl) ?_
  refine G.cse (cs' := (7, 2023)) rfl ?_
  obtain ⟨a25, ea25⟩ : ∃ z : Nat, z = hz h24 := ⟨_, rfl⟩
  rw [← ea25]
  have hw := wp_bd hw a25 ea25
  refine G.nmh fun h26 eh26 => ?_
  have hw := wp_bd hw h26 eh26
  obtain ⟨c27, hw⟩ := wp_ck hw
  refine G_putFR (v := (some a25)) fl_X8_signSeen (Or.inr ⟨_, rfl⟩) w_296 rfl rfl dX8_init_55 c27 ?_
  refine G.nmh fun h28 eh28 => ?_
  have hw := wp_bd hw h28 eh28
  exact G_vreturn rfl dX8_init_58 ⟨rfl, wp_ret hw⟩
set_option maxHeartbeats 4000000 in
set_option maxRecDepth 100000 in
theorem s_X3_init {Γ : GX} (hs : SF Γ) {N : Nat} (l0 : Nat) (h : PH) (Q : Unit → PH → Prop) (hw : wp (f_X3_init N l0 h) Q) : Spec Γ yX3_init cX3_init 1 none (2, 9, 1483) [.ref l0] h (q_u Q) := by
  refine Spec.of (by decide) (Nat.le_of_ble_eq_true rfl) [some (.ref l0)] rfl ?_
  unfold f_X3_init at hw
  refine G_aload_n dX3_init_0 rfl ?_
  refine G_objInit w_352 w_160 w_161 dX3_init_1 (Nat.le_of_ble_eq_true rfl) (Nat.le_of_ble_eq_true rfl) ?_
  refine G_aload_n dX3_init_4 rfl ?_
  refine G_iconst (v := (4 : Int32)) dX3_init_5 (by decide) ?_
  refine G_newarray12 (n := 4) dX3_init_6 w_240 (by decide) rfl (Nat.le_of_ble_eq_true rfl) (Nat.le_of_ble_eq_true rfl) (Nat.le_of_ble_eq_true rfl) ?_
  refine G.cse (cs' := (1, 4)) rfl ?_
  obtain ⟨a1, ea1⟩ : ∃ z : Nat, z = hz h := ⟨_, rfl⟩
  rw [← ea1]
  have hw := wp_bd hw a1 ea1
  refine G.nmh fun h2 eh2 => ?_
  have hw := wp_bd hw h2 eh2
  obtain ⟨c3, hw⟩ := wp_ck hw
  refine G_putFR (v := (some a1)) fl_X3_houses (Or.inr ⟨_, rfl⟩) w_353 rfl rfl dX3_init_8 c3 ?_
  refine G.nmh fun h4 eh4 => ?_
  have hw := wp_bd hw h4 eh4
  refine G_aload_n dX3_init_11 rfl ?_
  refine G_iconst (v := (4 : Int32)) dX3_init_12 (by decide) ?_
  refine G_newarray12 (n := 4) dX3_init_13 w_240 (by decide) rfl (Nat.le_of_ble_eq_true rfl) (Nat.le_of_ble_eq_true rfl) (Nat.le_of_ble_eq_true rfl) ?_
  refine G.cse (cs' := (2, 8)) rfl ?_
  obtain ⟨a5, ea5⟩ : ∃ z : Nat, z = hz h4 := ⟨_, rfl⟩
  rw [← ea5]
  have hw := wp_bd hw a5 ea5
  refine G.nmh fun h6 eh6 => ?_
  have hw := wp_bd hw h6 eh6
  obtain ⟨c7, hw⟩ := wp_ck hw
  refine G_putFR (v := (some a5)) fl_X3_row (Or.inr ⟨_, rfl⟩) w_354 rfl rfl dX3_init_15 c7 ?_
  refine G.nmh fun h8 eh8 => ?_
  have hw := wp_bd hw h8 eh8
  refine G_aload_n dX3_init_18 rfl ?_
  refine G_iconst (v := (4 : Int32)) dX3_init_19 (by decide) ?_
  refine G_newarray12 (n := 4) dX3_init_20 w_240 (by decide) rfl (Nat.le_of_ble_eq_true rfl) (Nat.le_of_ble_eq_true rfl) (Nat.le_of_ble_eq_true rfl) ?_
  refine G.cse (cs' := (3, 12)) rfl ?_
  obtain ⟨a9, ea9⟩ : ∃ z : Nat, z = hz h8 := ⟨_, rfl⟩
  rw [← ea9]
  have hw := wp_bd hw a9 ea9
  refine G.nmh fun h10 eh10 => ?_
  have hw := wp_bd hw h10 eh10
  obtain ⟨c11, hw⟩ := wp_ck hw
  refine G_putFR (v := (some a9)) fl_X3_best (Or.inr ⟨_, rfl⟩) w_355 rfl rfl dX3_init_22 c11 ?_
  refine G.nmh fun h12 eh12 => ?_
  have hw := wp_bd hw h12 eh12
  refine G_aload_n dX3_init_25 rfl ?_
  refine G_iconst (v := (4 : Int32)) dX3_init_26 (by decide) ?_
  refine G_newarray12 (n := 4) dX3_init_27 w_240 (by decide) rfl (Nat.le_of_ble_eq_true rfl) (Nat.le_of_ble_eq_true rfl) (Nat.le_of_ble_eq_true rfl) ?_
  refine G.cse (cs' := (4, 16)) rfl ?_
  obtain ⟨a13, ea13⟩ : ∃ z : Nat, z = hz h12 := ⟨_, rfl⟩
  rw [← ea13]
  have hw := wp_bd hw a13 ea13
  refine G.nmh fun h14 eh14 => ?_
  have hw := wp_bd hw h14 eh14
  obtain ⟨c15, hw⟩ := wp_ck hw
  refine G_putFR (v := (some a13)) fl_X3_shows (Or.inr ⟨_, rfl⟩) w_356 rfl rfl dX3_init_29 c15 ?_
  refine G.nmh fun h16 eh16 => ?_
  have hw := wp_bd hw h16 eh16
  refine G_aload_n dX3_init_32 rfl ?_
  refine G_bipush (v := (44 : Int32)) dX3_init_33 (by decide) ?_
  refine G_newarray12 (n := 44) dX3_init_35 w_240 (by decide) rfl (Nat.le_of_ble_eq_true rfl) (Nat.le_of_ble_eq_true rfl) (Nat.le_of_ble_eq_true rfl) ?_
  refine G.cse (cs' := (5, 60)) rfl ?_
  obtain ⟨a17, ea17⟩ : ∃ z : Nat, z = hz h16 := ⟨_, rfl⟩
  rw [← ea17]
  have hw := wp_bd hw a17 ea17
  refine G.nmh fun h18 eh18 => ?_
  have hw := wp_bd hw h18 eh18
  obtain ⟨c19, hw⟩ := wp_ck hw
  refine G_putFR (v := (some a17)) fl_X3_darkThen (Or.inr ⟨_, rfl⟩) w_357 rfl rfl dX3_init_37 c19 ?_
  refine G.nmh fun h20 eh20 => ?_
  have hw := wp_bd hw h20 eh20
  refine G_aload_n dX3_init_40 rfl ?_
  refine G_bipush (v := (44 : Int32)) dX3_init_41 (by decide) ?_
  refine G_newarray12 (n := 44) dX3_init_43 w_240 (by decide) rfl (Nat.le_of_ble_eq_true rfl) (Nat.le_of_ble_eq_true rfl) (Nat.le_of_ble_eq_true rfl) ?_
  refine G.cse (cs' := (6, 104)) rfl ?_
  obtain ⟨a21, ea21⟩ : ∃ z : Nat, z = hz h20 := ⟨_, rfl⟩
  rw [← ea21]
  have hw := wp_bd hw a21 ea21
  refine G.nmh fun h22 eh22 => ?_
  have hw := wp_bd hw h22 eh22
  obtain ⟨c23, hw⟩ := wp_ck hw
  refine G_putFR (v := (some a21)) fl_X3_sweetThen (Or.inr ⟨_, rfl⟩) w_358 rfl rfl dX3_init_45 c23 ?_
  refine G.nmh fun h24 eh24 => ?_
  have hw := wp_bd hw h24 eh24
  refine G_aload_n dX3_init_48 rfl ?_
  refine G_bipush (v := (24 : Int32)) dX3_init_49 (by decide) ?_
  refine G_newarray12 (n := 24) dX3_init_51 w_240 (by decide) rfl (Nat.le_of_ble_eq_true rfl) (Nat.le_of_ble_eq_true rfl) (Nat.le_of_ble_eq_true rfl) ?_
  refine G.cse (cs' := (7, 128)) rfl ?_
  obtain ⟨a25, ea25⟩ : ∃ z : Nat, z = hz h24 := ⟨_, rfl⟩
  rw [← ea25]
  have hw := wp_bd hw a25 ea25
  refine G.nmh fun h26 eh26 => ?_
  have hw := wp_bd hw h26 eh26
  obtain ⟨c27, hw⟩ := wp_ck hw
  refine G_putFR (v := (some a25)) fl_X3_idle (Or.inr ⟨_, rfl⟩) w_359 rfl rfl dX3_init_53 c27 ?_
  refine G.nmh fun h28 eh28 => ?_
  have hw := wp_bd hw h28 eh28
  refine G_aload_n dX3_init_56 rfl ?_
  refine G_bipush (v := (24 : Int32)) dX3_init_57 (by decide) ?_
  refine G_newarray12 (n := 24) dX3_init_59 w_240 (by decide) rfl (Nat.le_of_ble_eq_true rfl) (Nat.le_of_ble_eq_true rfl) (Nat.le_of_ble_eq_true rfl) ?_
  refine G.cse (cs' := (8, 152)) rfl ?_
  obtain ⟨a29, ea29⟩ : ∃ z : Nat, z = hz h28 := ⟨_, rfl⟩
  rw [← ea29]
  have hw := wp_bd hw a29 ea29
  refine G.nmh fun h30 eh30 => ?_
  have hw := wp_bd hw h30 eh30
  obtain ⟨c31, hw⟩ := wp_ck hw
  refine G_putFR (v := (some a29)) fl_X3_fresh (Or.inr ⟨_, rfl⟩) w_360 rfl rfl dX3_init_61 c31 ?_
  refine G.nmh fun h32 eh32 => ?_
  have hw := wp_bd hw h32 eh32
  refine G_aload_n dX3_init_64 rfl ?_
  refine G_sipush (v := (1331 : Int32)) dX3_init_65 (by decide) ?_
  refine G_newarray12 (n := 1331) dX3_init_68 w_240 (by decide) rfl (Nat.le_of_ble_eq_true rfl) (Nat.le_of_ble_eq_true rfl) (Nat.le_of_ble_eq_true rfl) ?_
  refine G.cse (cs' := (9, 1483)) rfl ?_
  obtain ⟨a33, ea33⟩ : ∃ z : Nat, z = hz h32 := ⟨_, rfl⟩
  rw [← ea33]
  have hw := wp_bd hw a33 ea33
  refine G.nmh fun h34 eh34 => ?_
  have hw := wp_bd hw h34 eh34
  obtain ⟨c35, hw⟩ := wp_ck hw
  refine G_putFR (v := (some a33)) fl_X3_reading (Or.inr ⟨_, rfl⟩) w_361 rfl rfl dX3_init_70 c35 ?_
  refine G.nmh fun h36 eh36 => ?_
  have hw := wp_bd hw h36 eh36
  exact G_vreturn rfl dX3_init_73 ⟨rfl, wp_ret hw⟩
set_option maxHeartbeats 4000000 in
set_option maxRecDepth 100000 in
theorem s_X1_init {Γ : GX} (hs : SF Γ) {N : Nat} (l0 : Nat) (l1 : Int32) (h : PH) (Q : Unit → PH → Prop) (hw : wp (f_X1_init N l0 l1 h) Q) : Spec Γ yX1_init cX1_init 2 none (2, 2, 1032) [.ref l0, .int l1] h (q_u Q) := by
  refine Spec.of (by decide) (Nat.le_of_ble_eq_true rfl) [some (.ref l0), some (.int l1)] rfl ?_
  unfold f_X1_init at hw
  refine G_aload_n dX1_init_0 rfl ?_
  refine G_objInit w_411 w_160 w_161 dX1_init_1 (Nat.le_of_ble_eq_true rfl) (Nat.le_of_ble_eq_true rfl) ?_
  refine G_aload_n dX1_init_4 rfl ?_
  refine G_sipush (v := (1000 : Int32)) dX1_init_5 (by decide) ?_
  refine G_newarray12 (n := 1000) dX1_init_8 w_240 (by decide) rfl (Nat.le_of_ble_eq_true rfl) (Nat.le_of_ble_eq_true rfl) (Nat.le_of_ble_eq_true rfl) ?_
  refine G.cse (cs' := (1, 1000)) rfl ?_
  obtain ⟨a1, ea1⟩ : ∃ z : Nat, z = hz h := ⟨_, rfl⟩
  rw [← ea1]
  have hw := wp_bd hw a1 ea1
  refine G.nmh fun h2 eh2 => ?_
  have hw := wp_bd hw h2 eh2
  obtain ⟨c3, hw⟩ := wp_ck hw
  refine G_putFR (v := (some a1)) fl_X1_code (Or.inr ⟨_, rfl⟩) w_413 rfl rfl dX1_init_10 c3 ?_
  refine G.nmh fun h4 eh4 => ?_
  have hw := wp_bd hw h4 eh4
  refine G_aload_n dX1_init_13 rfl ?_
  refine G_bipush (v := (32 : Int32)) dX1_init_14 (by decide) ?_
  refine G_newarray12 (n := 32) dX1_init_16 w_240 (by decide) rfl (Nat.le_of_ble_eq_true rfl) (Nat.le_of_ble_eq_true rfl) (Nat.le_of_ble_eq_true rfl) ?_
  refine G.cse (cs' := (2, 1032)) rfl ?_
  obtain ⟨a5, ea5⟩ : ∃ z : Nat, z = hz h4 := ⟨_, rfl⟩
  rw [← ea5]
  have hw := wp_bd hw a5 ea5
  refine G.nmh fun h6 eh6 => ?_
  have hw := wp_bd hw h6 eh6
  obtain ⟨c7, hw⟩ := wp_ck hw
  refine G_putFR (v := (some a5)) fl_X1_waiting (Or.inr ⟨_, rfl⟩) w_414 rfl rfl dX1_init_18 c7 ?_
  refine G.nmh fun h8 eh8 => ?_
  have hw := wp_bd hw h8 eh8
  refine G_aload_n dX1_init_21 rfl ?_
  refine G_iload_n dX1_init_22 rfl ?_
  obtain ⟨c9, hw⟩ := wp_ck hw
  obtain ⟨c10, hw⟩ := wp_ck hw
  refine G_putFZ fl_X1_ofFires w_412 rfl rfl dX1_init_23 c9 c10 ?_
  refine G.nmh fun h11 eh11 => ?_
  have hw := wp_bd hw h11 eh11
  exact G_vreturn rfl dX1_init_26 ⟨rfl, wp_ret hw⟩
set_option maxHeartbeats 4000000 in
set_option maxRecDepth 100000 in
theorem s_X6_init {Γ : GX} (hs : SF Γ) {N : Nat} (l0 : Nat) (h : PH) (Q : Unit → PH → Prop) (hw : wp (f_X6_init N l0 h) Q) : Spec Γ yX6_init cX6_init 1 none (3, 17, 3186) [.ref l0] h (q_u Q) := by
  refine Spec.of (by decide) (Nat.le_of_ble_eq_true rfl) [some (.ref l0)] rfl ?_
  unfold f_X6_init at hw
  refine G_aload_n dX6_init_0 rfl ?_
  refine G_objInit w_405 w_160 w_161 dX6_init_1 (Nat.le_of_ble_eq_true rfl) (Nat.le_of_ble_eq_true rfl) ?_
  refine G_aload_n dX6_init_4 rfl ?_
  refine G_iconst (v := (5 : Int32)) dX6_init_5 (by decide) ?_
  refine G_newarray12 (n := 5) dX6_init_6 w_240 (by decide) rfl (Nat.le_of_ble_eq_true rfl) (Nat.le_of_ble_eq_true rfl) (Nat.le_of_ble_eq_true rfl) ?_
  refine G.cse (cs' := (1, 5)) rfl ?_
  obtain ⟨a1, ea1⟩ : ∃ z : Nat, z = hz h := ⟨_, rfl⟩
  rw [← ea1]
  have hw := wp_bd hw a1 ea1
  refine G.nmh fun h2 eh2 => ?_
  have hw := wp_bd hw h2 eh2
  obtain ⟨c3, hw⟩ := wp_ck hw
  refine G_putFR (v := (some a1)) fl_X6_many (Or.inr ⟨_, rfl⟩) w_426 rfl rfl dX6_init_8 c3 ?_
  refine G.nmh fun h4 eh4 => ?_
  have hw := wp_bd hw h4 eh4
  refine G_aload_n dX6_init_11 rfl ?_
  refine G_bipush (v := (30 : Int32)) dX6_init_12 (by decide) ?_
  refine G_newarray14 (n := 30) dX6_init_14 w_425 (by decide) rfl (Nat.le_of_ble_eq_true rfl) (Nat.le_of_ble_eq_true rfl) (Nat.le_of_ble_eq_true rfl) ?_
  refine G.cse (cs' := (2, 35)) rfl ?_
  obtain ⟨a5, ea5⟩ : ∃ z : Nat, z = hz h4 := ⟨_, rfl⟩
  rw [← ea5]
  have hw := wp_bd hw a5 ea5
  refine G.nmh fun h6 eh6 => ?_
  have hw := wp_bd hw h6 eh6
  obtain ⟨c7, hw⟩ := wp_ck hw
  refine G_putFR (v := (some a5)) fl_X6_names (Or.inr ⟨_, rfl⟩) w_432 rfl rfl dX6_init_16 c7 ?_
  refine G.nmh fun h8 eh8 => ?_
  have hw := wp_bd hw h8 eh8
  refine G_aload_n dX6_init_19 rfl ?_
  refine G_iconst (v := (5 : Int32)) dX6_init_20 (by decide) ?_
  refine G_newarray12 (n := 5) dX6_init_21 w_240 (by decide) rfl (Nat.le_of_ble_eq_true rfl) (Nat.le_of_ble_eq_true rfl) (Nat.le_of_ble_eq_true rfl) ?_
  refine G.cse (cs' := (3, 40)) rfl ?_
  obtain ⟨a9, ea9⟩ : ∃ z : Nat, z = hz h8 := ⟨_, rfl⟩
  rw [← ea9]
  have hw := wp_bd hw a9 ea9
  refine G.nmh fun h10 eh10 => ?_
  have hw := wp_bd hw h10 eh10
  obtain ⟨c11, hw⟩ := wp_ck hw
  refine G_putFR (v := (some a9)) fl_X6_fuelDark (Or.inr ⟨_, rfl⟩) w_433 rfl rfl dX6_init_23 c11 ?_
  refine G.nmh fun h12 eh12 => ?_
  have hw := wp_bd hw h12 eh12
  refine G_aload_n dX6_init_26 rfl ?_
  refine G_iconst (v := (5 : Int32)) dX6_init_27 (by decide) ?_
  refine G_newarray12 (n := 5) dX6_init_28 w_240 (by decide) rfl (Nat.le_of_ble_eq_true rfl) (Nat.le_of_ble_eq_true rfl) (Nat.le_of_ble_eq_true rfl) ?_
  refine G.cse (cs' := (4, 45)) rfl ?_
  obtain ⟨a13, ea13⟩ : ∃ z : Nat, z = hz h12 := ⟨_, rfl⟩
  rw [← ea13]
  have hw := wp_bd hw a13 ea13
  refine G.nmh fun h14 eh14 => ?_
  have hw := wp_bd hw h14 eh14
  obtain ⟨c15, hw⟩ := wp_ck hw
  refine G_putFR (v := (some a13)) fl_X6_fuelSweet (Or.inr ⟨_, rfl⟩) w_435 rfl rfl dX6_init_30 c15 ?_
  refine G.nmh fun h16 eh16 => ?_
  have hw := wp_bd hw h16 eh16
  refine G_aload_n dX6_init_33 rfl ?_
  refine G_iconst (v := (5 : Int32)) dX6_init_34 (by decide) ?_
  refine G_newarray12 (n := 5) dX6_init_35 w_240 (by decide) rfl (Nat.le_of_ble_eq_true rfl) (Nat.le_of_ble_eq_true rfl) (Nat.le_of_ble_eq_true rfl) ?_
  refine G.cse (cs' := (5, 50)) rfl ?_
  obtain ⟨a17, ea17⟩ : ∃ z : Nat, z = hz h16 := ⟨_, rfl⟩
  rw [← ea17]
  have hw := wp_bd hw a17 ea17
  refine G.nmh fun h18 eh18 => ?_
  have hw := wp_bd hw h18 eh18
  obtain ⟨c19, hw⟩ := wp_ck hw
  refine G_putFR (v := (some a17)) fl_X6_fuelBurns (Or.inr ⟨_, rfl⟩) w_437 rfl rfl dX6_init_37 c19 ?_
  refine G.nmh fun h20 eh20 => ?_
  have hw := wp_bd hw h20 eh20
  refine G_aload_n dX6_init_40 rfl ?_
  refine G_iconst (v := (4 : Int32)) dX6_init_41 (by decide) ?_
  refine G_newarray12 (n := 4) dX6_init_42 w_240 (by decide) rfl (Nat.le_of_ble_eq_true rfl) (Nat.le_of_ble_eq_true rfl) (Nat.le_of_ble_eq_true rfl) ?_
  refine G.cse (cs' := (6, 54)) rfl ?_
  obtain ⟨a21, ea21⟩ : ∃ z : Nat, z = hz h20 := ⟨_, rfl⟩
  rw [← ea21]
  have hw := wp_bd hw a21 ea21
  refine G.nmh fun h22 eh22 => ?_
  have hw := wp_bd hw h22 eh22
  obtain ⟨c23, hw⟩ := wp_ck hw
  refine G_putFR (v := (some a21)) fl_X6_houseFlue (Or.inr ⟨_, rfl⟩) w_441 rfl rfl dX6_init_44 c23 ?_
  refine G.nmh fun h24 eh24 => ?_
  have hw := wp_bd hw h24 eh24
  refine G_aload_n dX6_init_47 rfl ?_
  refine G_bipush (v := (20 : Int32)) dX6_init_48 (by decide) ?_
  refine G_newarray12 (n := 20) dX6_init_50 w_240 (by decide) rfl (Nat.le_of_ble_eq_true rfl) (Nat.le_of_ble_eq_true rfl) (Nat.le_of_ble_eq_true rfl) ?_
  refine G.cse (cs' := (7, 74)) rfl ?_
  obtain ⟨a25, ea25⟩ : ∃ z : Nat, z = hz h24 := ⟨_, rfl⟩
  rw [← ea25]
  have hw := wp_bd hw a25 ea25
  refine G.nmh fun h26 eh26 => ?_
  have hw := wp_bd hw h26 eh26
  obtain ⟨c27, hw⟩ := wp_ck hw
  refine G_putFR (v := (some a25)) fl_X6_stock (Or.inr ⟨_, rfl⟩) w_446 rfl rfl dX6_init_52 c27 ?_
  refine G.nmh fun h28 eh28 => ?_
  have hw := wp_bd hw h28 eh28
  refine G_aload_n dX6_init_55 rfl ?_
  refine G_bipush (v := (24 : Int32)) dX6_init_56 (by decide) ?_
  refine G_newarray12 (n := 24) dX6_init_58 w_240 (by decide) rfl (Nat.le_of_ble_eq_true rfl) (Nat.le_of_ble_eq_true rfl) (Nat.le_of_ble_eq_true rfl) ?_
  refine G.cse (cs' := (8, 98)) rfl ?_
  obtain ⟨a29, ea29⟩ : ∃ z : Nat, z = hz h28 := ⟨_, rfl⟩
  rw [← ea29]
  have hw := wp_bd hw a29 ea29
  refine G.nmh fun h30 eh30 => ?_
  have hw := wp_bd hw h30 eh30
  obtain ⟨c31, hw⟩ := wp_ck hw
  refine G_putFR (v := (some a29)) fl_X6_ranges (Or.inr ⟨_, rfl⟩) w_451 rfl rfl dX6_init_60 c31 ?_
  refine G.nmh fun h32 eh32 => ?_
  have hw := wp_bd hw h32 eh32
  refine G_aload_n dX6_init_63 rfl ?_
  refine G_iconst (v := (4 : Int32)) dX6_init_64 (by decide) ?_
  refine G_newarray12 (n := 4) dX6_init_65 w_240 (by decide) rfl (Nat.le_of_ble_eq_true rfl) (Nat.le_of_ble_eq_true rfl) (Nat.le_of_ble_eq_true rfl) ?_
  refine G.cse (cs' := (9, 102)) rfl ?_
  obtain ⟨a33, ea33⟩ : ∃ z : Nat, z = hz h32 := ⟨_, rfl⟩
  rw [← ea33]
  have hw := wp_bd hw a33 ea33
  refine G.nmh fun h34 eh34 => ?_
  have hw := wp_bd hw h34 eh34
  obtain ⟨c35, hw⟩ := wp_ck hw
  refine G_putFR (v := (some a33)) fl_X6_sights (Or.inr ⟨_, rfl⟩) w_453 rfl rfl dX6_init_67 c35 ?_
  refine G.nmh fun h36 eh36 => ?_
  have hw := wp_bd hw h36 eh36
  refine G_aload_n dX6_init_70 rfl ?_
  refine G_bipush (v := (12 : Int32)) dX6_init_71 (by decide) ?_
  refine G_newarray12 (n := 12) dX6_init_73 w_240 (by decide) rfl (Nat.le_of_ble_eq_true rfl) (Nat.le_of_ble_eq_true rfl) (Nat.le_of_ble_eq_true rfl) ?_
  refine G.cse (cs' := (10, 114)) rfl ?_
  obtain ⟨a37, ea37⟩ : ∃ z : Nat, z = hz h36 := ⟨_, rfl⟩
  rw [← ea37]
  have hw := wp_bd hw a37 ea37
  refine G.nmh fun h38 eh38 => ?_
  have hw := wp_bd hw h38 eh38
  obtain ⟨c39, hw⟩ := wp_ck hw
  refine G_putFR (v := (some a37)) fl_X6_winds (Or.inr ⟨_, rfl⟩) w_457 rfl rfl dX6_init_75 c39 ?_
  refine G.nmh fun h40 eh40 => ?_
  have hw := wp_bd hw h40 eh40
  refine G_aload_n dX6_init_78 rfl ?_
  refine G_new kl_X1 w_406 dX6_init_79 (Nat.le_of_ble_eq_true rfl) (Nat.le_of_ble_eq_true rfl) ?_
  refine G.cse (cs' := (11, 118)) rfl ?_
  obtain ⟨a41, ea41⟩ : ∃ z : Nat, z = hz h40 := ⟨_, rfl⟩
  rw [← ea41]
  have hw := wp_bd hw a41 ea41
  refine G.nmh fun h42 eh42 => ?_
  have hw := wp_bd hw h42 eh42
  refine G_dup dX6_init_82 rfl ?_
  refine G_iconst (v := (1 : Int32)) dX6_init_83 (by decide) ?_
  refine G_callI (As := [.int (1 : Int32)]) (s_X1_init hs a41 (1 : Int32) h42 _ (wp_cl hw)) ca_X1_init rfl w_409 w_408 (Nat.le_of_ble_eq_true rfl) (Nat.le_of_ble_eq_true rfl) rfl (Nat.le_of_ble_eq_true rfl) (Nat.le_of_ble_eq_true rfl) (Nat.le_of_ble_eq_true rfl) dX6_init_84 rfl (fun v h44 hq => ?_)
  obtain ⟨rfl, hw⟩ := hq
  refine G.cse (cs' := (13, 1150)) rfl ?_
  show GZ _ _ _ _ _ _ _ 87 _ [.ref a41, .ref l0] _ _
  obtain ⟨c45, hw⟩ := wp_ck hw
  refine G_putFR (v := (some a41)) fl_X6_gives (Or.inl ⟨_, rfl⟩) w_461 rfl rfl dX6_init_87 c45 ?_
  refine G.nmh fun h46 eh46 => ?_
  have hw := wp_bd hw h46 eh46
  refine G_aload_n dX6_init_90 rfl ?_
  refine G_new kl_X1 w_406 dX6_init_91 (Nat.le_of_ble_eq_true rfl) (Nat.le_of_ble_eq_true rfl) ?_
  refine G.cse (cs' := (14, 1154)) rfl ?_
  obtain ⟨a47, ea47⟩ : ∃ z : Nat, z = hz h46 := ⟨_, rfl⟩
  rw [← ea47]
  have hw := wp_bd hw a47 ea47
  refine G.nmh fun h48 eh48 => ?_
  have hw := wp_bd hw h48 eh48
  refine G_dup dX6_init_94 rfl ?_
  refine G_iconst (v := (0 : Int32)) dX6_init_95 (by decide) ?_
  refine G_callI (As := [.int (0 : Int32)]) (s_X1_init hs a47 (0 : Int32) h48 _ (wp_cl hw)) ca_X1_init rfl w_409 w_408 (Nat.le_of_ble_eq_true rfl) (Nat.le_of_ble_eq_true rfl) rfl (Nat.le_of_ble_eq_true rfl) (Nat.le_of_ble_eq_true rfl) (Nat.le_of_ble_eq_true rfl) dX6_init_96 rfl (fun v h50 hq => ?_)
  obtain ⟨rfl, hw⟩ := hq
  refine G.cse (cs' := (16, 2186)) rfl ?_
  show GZ _ _ _ _ _ _ _ 99 _ [.ref a47, .ref l0] _ _
  obtain ⟨c51, hw⟩ := wp_ck hw
  refine G_putFR (v := (some a47)) fl_X6_soots (Or.inl ⟨_, rfl⟩) w_463 rfl rfl dX6_init_99 c51 ?_
  refine G.nmh fun h52 eh52 => ?_
  have hw := wp_bd hw h52 eh52
  refine G_aload_n dX6_init_102 rfl ?_
  refine G_sipush (v := (1000 : Int32)) dX6_init_103 (by decide) ?_
  refine G_newarray12 (n := 1000) dX6_init_106 w_240 (by decide) rfl (Nat.le_of_ble_eq_true rfl) (Nat.le_of_ble_eq_true rfl) (Nat.le_of_ble_eq_true rfl) ?_
  refine G.cse (cs' := (17, 3186)) rfl ?_
  obtain ⟨a53, ea53⟩ : ∃ z : Nat, z = hz h52 := ⟨_, rfl⟩
  rw [← ea53]
  have hw := wp_bd hw a53 ea53
  refine G.nmh fun h54 eh54 => ?_
  have hw := wp_bd hw h54 eh54
  obtain ⟨c55, hw⟩ := wp_ck hw
  refine G_putFR (v := (some a53)) fl_X6_gifts (Or.inr ⟨_, rfl⟩) w_465 rfl rfl dX6_init_108 c55 ?_
  refine G.nmh fun h56 eh56 => ?_
  have hw := wp_bd hw h56 eh56
  exact G_vreturn rfl dX6_init_111 ⟨rfl, wp_ret hw⟩
set_option maxHeartbeats 4000000 in
set_option maxRecDepth 100000 in
theorem s_X10_init {Γ : GX} (hs : SF Γ) {N : Nat} (l0 : Nat) (h : PH) (Q : Unit → PH → Prop) (hw : wp (f_X10_init N l0 h) Q) : Spec Γ yX10_init cX10_init 2 none (4, 202, 13135) [.ref l0] h (q_u Q) := by
  refine Spec.of (by decide) (Nat.le_of_ble_eq_true rfl) [some (.ref l0), none] rfl ?_
  unfold f_X10_init at hw
  refine G_aload_n dX10_init_0 rfl ?_
  refine G_objInit w_159 w_160 w_161 dX10_init_1 (Nat.le_of_ble_eq_true rfl) (Nat.le_of_ble_eq_true rfl) ?_
  refine G_aload_n dX10_init_4 rfl ?_
  refine G_new kl_X5 w_162 dX10_init_5 (Nat.le_of_ble_eq_true rfl) (Nat.le_of_ble_eq_true rfl) ?_
  refine G.cse (cs' := (1, 9)) rfl ?_
  obtain ⟨a1, ea1⟩ : ∃ z : Nat, z = hz h := ⟨_, rfl⟩
  rw [← ea1]
  have hw := wp_bd hw a1 ea1
  refine G.nmh fun h2 eh2 => ?_
  have hw := wp_bd hw h2 eh2
  refine G_dup dX10_init_8 rfl ?_
  refine G_callIN (As := []) (s_X5_init hs a1 h2 _ (wp_cl hw)) ca_X5_init rfl w_165 w_164 (Nat.le_of_ble_eq_true rfl) (Nat.le_of_ble_eq_true rfl) rfl (Nat.le_of_ble_eq_true rfl) (Nat.le_of_ble_eq_true rfl) (Nat.le_of_ble_eq_true rfl) dX10_init_9 rfl (fun v h4 hq => ?_)
  obtain ⟨rfl, hw⟩ := hq
  refine G.cse (cs' := (2, 1009)) rfl ?_
  show GZ _ _ _ _ _ _ _ 12 _ [.ref a1, .ref l0] _ _
  obtain ⟨c5, hw⟩ := wp_ck hw
  refine G_putFR (v := (some a1)) fl_X10_tape (Or.inl ⟨_, rfl⟩) w_497 rfl rfl dX10_init_12 c5 ?_
  refine G.nmh fun h6 eh6 => ?_
  have hw := wp_bd hw h6 eh6
  refine G_aload_n dX10_init_15 rfl ?_
  refine G_new kl_X2 w_201 dX10_init_16 (Nat.le_of_ble_eq_true rfl) (Nat.le_of_ble_eq_true rfl) ?_
  refine G.cse (cs' := (3, 1015)) rfl ?_
  obtain ⟨a7, ea7⟩ : ∃ z : Nat, z = hz h6 := ⟨_, rfl⟩
  rw [← ea7]
  have hw := wp_bd hw a7 ea7
  refine G.nmh fun h8 eh8 => ?_
  have hw := wp_bd hw h8 eh8
  refine G_dup dX10_init_19 rfl ?_
  refine G_callIN (As := []) (s_X2_init hs a7 h8 _ (wp_cl hw)) ca_X2_init rfl w_204 w_203 (Nat.le_of_ble_eq_true rfl) (Nat.le_of_ble_eq_true rfl) rfl (Nat.le_of_ble_eq_true rfl) (Nat.le_of_ble_eq_true rfl) (Nat.le_of_ble_eq_true rfl) dX10_init_20 rfl (fun v h10 hq => ?_)
  obtain ⟨rfl, hw⟩ := hq
  refine G.cse (cs' := (13, 1277)) rfl ?_
  show GZ _ _ _ _ _ _ _ 23 _ [.ref a7, .ref l0] _ _
  obtain ⟨c11, hw⟩ := wp_ck hw
  refine G_putFR (v := (some a7)) fl_X10_now (Or.inl ⟨_, rfl⟩) w_498 rfl rfl dX10_init_23 c11 ?_
  refine G.nmh fun h12 eh12 => ?_
  have hw := wp_bd hw h12 eh12
  refine G_aload_n dX10_init_26 rfl ?_
  refine G_iconst (v := (4 : Int32)) dX10_init_27 (by decide) ?_
  refine G_anewarray15 (n := 4) dX10_init_28 w_201 w_278 (by decide) rfl (Nat.le_of_ble_eq_true rfl) (Nat.le_of_ble_eq_true rfl) (Nat.le_of_ble_eq_true rfl) ?_
  refine G.cse (cs' := (14, 1281)) rfl ?_
  obtain ⟨a13, ea13⟩ : ∃ z : Nat, z = hz h12 := ⟨_, rfl⟩
  rw [← ea13]
  have hw := wp_bd hw a13 ea13
  refine G.nmh fun h14 eh14 => ?_
  have hw := wp_bd hw h14 eh14
  obtain ⟨c15, hw⟩ := wp_ck hw
  refine G_putFR (v := (some a13)) fl_X10_marks (Or.inr ⟨_, rfl⟩) w_499 rfl rfl dX10_init_31 c15 ?_
  refine G.nmh fun h16 eh16 => ?_
  have hw := wp_bd hw h16 eh16
  refine G_aload_n dX10_init_34 rfl ?_
  refine G_bipush (v := (16 : Int32)) dX10_init_35 (by decide) ?_
  refine G_anewarray16 (n := 16) dX10_init_37 w_279 w_280 (by decide) rfl (Nat.le_of_ble_eq_true rfl) (Nat.le_of_ble_eq_true rfl) (Nat.le_of_ble_eq_true rfl) ?_
  refine G.cse (cs' := (15, 1297)) rfl ?_
  obtain ⟨a17, ea17⟩ : ∃ z : Nat, z = hz h16 := ⟨_, rfl⟩
  rw [← ea17]
  have hw := wp_bd hw a17 ea17
  refine G.nmh fun h18 eh18 => ?_
  have hw := wp_bd hw h18 eh18
  obtain ⟨c19, hw⟩ := wp_ck hw
  refine G_putFR (v := (some a17)) fl_X10_past (Or.inr ⟨_, rfl⟩) w_500 rfl rfl dX10_init_40 c19 ?_
  refine G.nmh fun h20 eh20 => ?_
  have hw := wp_bd hw h20 eh20
  refine G_aload_n dX10_init_43 rfl ?_
  refine G_new kl_X4 w_279 dX10_init_44 (Nat.le_of_ble_eq_true rfl) (Nat.le_of_ble_eq_true rfl) ?_
  refine G.cse (cs' := (16, 1302)) rfl ?_
  obtain ⟨a21, ea21⟩ : ∃ z : Nat, z = hz h20 := ⟨_, rfl⟩
  rw [← ea21]
  have hw := wp_bd hw a21 ea21
  refine G.nmh fun h22 eh22 => ?_
  have hw := wp_bd hw h22 eh22
  refine G_dup dX10_init_47 rfl ?_
  refine G_callI (As := []) (s_X4_init hs a21 h22 _ (wp_cl hw)) ca_X4_init rfl w_210 w_281 (Nat.le_of_ble_eq_true rfl) (Nat.le_of_ble_eq_true rfl) rfl (Nat.le_of_ble_eq_true rfl) (Nat.le_of_ble_eq_true rfl) (Nat.le_of_ble_eq_true rfl) dX10_init_48 rfl (fun v h24 hq => ?_)
  obtain ⟨rfl, hw⟩ := hq
  refine G.cse (cs' := (20, 1333)) rfl ?_
  show GZ _ _ _ _ _ _ _ 51 _ [.ref a21, .ref l0] _ _
  obtain ⟨c25, hw⟩ := wp_ck hw
  refine G_putFR (v := (some a21)) fl_X10_dream (Or.inl ⟨_, rfl⟩) w_501 rfl rfl dX10_init_51 c25 ?_
  refine G.nmh fun h26 eh26 => ?_
  have hw := wp_bd hw h26 eh26
  refine G_aload_n dX10_init_54 rfl ?_
  refine G_new kl_X0 w_282 dX10_init_55 (Nat.le_of_ble_eq_true rfl) (Nat.le_of_ble_eq_true rfl) ?_
  refine G.cse (cs' := (21, 1335)) rfl ?_
  obtain ⟨a27, ea27⟩ : ∃ z : Nat, z = hz h26 := ⟨_, rfl⟩
  rw [← ea27]
  have hw := wp_bd hw a27 ea27
  refine G.nmh fun h28 eh28 => ?_
  have hw := wp_bd hw h28 eh28
  refine G_dup dX10_init_58 rfl ?_
  refine G_callIN (As := []) (s_X0_init hs a27 h28 _ (wp_cl hw)) ca_X0_init rfl w_244 w_283 (Nat.le_of_ble_eq_true rfl) (Nat.le_of_ble_eq_true rfl) rfl (Nat.le_of_ble_eq_true rfl) (Nat.le_of_ble_eq_true rfl) (Nat.le_of_ble_eq_true rfl) dX10_init_59 rfl (fun v h30 hq => ?_)
  obtain ⟨rfl, hw⟩ := hq
  refine G.cse (cs' := (22, 1535)) rfl ?_
  show GZ _ _ _ _ _ _ _ 62 _ [.ref a27, .ref l0] _ _
  obtain ⟨c31, hw⟩ := wp_ck hw
  refine G_putFR (v := (some a27)) fl_X10_spareDay (Or.inl ⟨_, rfl⟩) w_502 rfl rfl dX10_init_62 c31 ?_
  refine G.nmh fun h32 eh32 => ?_
  have hw := wp_bd hw h32 eh32
  refine G_aload_n dX10_init_65 rfl ?_
  refine G_new kl_X8 w_284 dX10_init_66 (Nat.le_of_ble_eq_true rfl) (Nat.le_of_ble_eq_true rfl) ?_
  refine G.cse (cs' := (23, 1552)) rfl ?_
  obtain ⟨a33, ea33⟩ : ∃ z : Nat, z = hz h32 := ⟨_, rfl⟩
  rw [← ea33]
  have hw := wp_bd hw a33 ea33
  refine G.nmh fun h34 eh34 => ?_
  have hw := wp_bd hw h34 eh34
  refine G_dup dX10_init_69 rfl ?_
  refine G_callIN (As := []) (s_X8_init hs a33 h34 _ (wp_cl hw)) ca_X8_init rfl w_287 w_286 (Nat.le_of_ble_eq_true rfl) (Nat.le_of_ble_eq_true rfl) rfl (Nat.le_of_ble_eq_true rfl) (Nat.le_of_ble_eq_true rfl) (Nat.le_of_ble_eq_true rfl) dX10_init_70 rfl (fun v h36 hq => ?_)
  obtain ⟨rfl, hw⟩ := hq
  refine G.cse (cs' := (30, 3575)) rfl ?_
  show GZ _ _ _ _ _ _ _ 73 _ [.ref a33, .ref l0] _ _
  obtain ⟨c37, hw⟩ := wp_ck hw
  refine G_putFR (v := (some a33)) fl_X10_walk (Or.inl ⟨_, rfl⟩) w_503 rfl rfl dX10_init_73 c37 ?_
  refine G.nmh fun h38 eh38 => ?_
  have hw := wp_bd hw h38 eh38
  refine G_aload_n dX10_init_76 rfl ?_
  refine G_new kl_X3 w_347 dX10_init_77 (Nat.le_of_ble_eq_true rfl) (Nat.le_of_ble_eq_true rfl) ?_
  refine G.cse (cs' := (31, 3590)) rfl ?_
  obtain ⟨a39, ea39⟩ : ∃ z : Nat, z = hz h38 := ⟨_, rfl⟩
  rw [← ea39]
  have hw := wp_bd hw a39 ea39
  refine G.nmh fun h40 eh40 => ?_
  have hw := wp_bd hw h40 eh40
  refine G_dup dX10_init_80 rfl ?_
  refine G_callIN (As := []) (s_X3_init hs a39 h40 _ (wp_cl hw)) ca_X3_init rfl w_350 w_349 (Nat.le_of_ble_eq_true rfl) (Nat.le_of_ble_eq_true rfl) rfl (Nat.le_of_ble_eq_true rfl) (Nat.le_of_ble_eq_true rfl) (Nat.le_of_ble_eq_true rfl) dX10_init_81 rfl (fun v h42 hq => ?_)
  obtain ⟨rfl, hw⟩ := hq
  refine G.cse (cs' := (40, 5073)) rfl ?_
  show GZ _ _ _ _ _ _ _ 84 _ [.ref a39, .ref l0] _ _
  obtain ⟨c43, hw⟩ := wp_ck hw
  refine G_putFR (v := (some a39)) fl_X10_speller (Or.inl ⟨_, rfl⟩) w_504 rfl rfl dX10_init_84 c43 ?_
  refine G.nmh fun h44 eh44 => ?_
  have hw := wp_bd hw h44 eh44
  refine G_aload_n dX10_init_87 rfl ?_
  refine G_iconst (v := (3 : Int32)) dX10_init_88 (by decide) ?_
  refine G_newarray12 (n := 3) dX10_init_89 w_240 (by decide) rfl (Nat.le_of_ble_eq_true rfl) (Nat.le_of_ble_eq_true rfl) (Nat.le_of_ble_eq_true rfl) ?_
  refine G.cse (cs' := (41, 5076)) rfl ?_
  obtain ⟨a45, ea45⟩ : ∃ z : Nat, z = hz h44 := ⟨_, rfl⟩
  rw [← ea45]
  have hw := wp_bd hw a45 ea45
  refine G.nmh fun h46 eh46 => ?_
  have hw := wp_bd hw h46 eh46
  obtain ⟨c47, hw⟩ := wp_ck hw
  refine G_putFR (v := (some a45)) fl_X10_flueWays (Or.inr ⟨_, rfl⟩) w_505 rfl rfl dX10_init_91 c47 ?_
  refine G.nmh fun h48 eh48 => ?_
  have hw := wp_bd hw h48 eh48
  refine G_aload_n dX10_init_94 rfl ?_
  refine G_bipush (v := (9 : Int32)) dX10_init_95 (by decide) ?_
  refine G_newarray12 (n := 9) dX10_init_97 w_240 (by decide) rfl (Nat.le_of_ble_eq_true rfl) (Nat.le_of_ble_eq_true rfl) (Nat.le_of_ble_eq_true rfl) ?_
  refine G.cse (cs' := (42, 5085)) rfl ?_
  obtain ⟨a49, ea49⟩ : ∃ z : Nat, z = hz h48 := ⟨_, rfl⟩
  rw [← ea49]
  have hw := wp_bd hw a49 ea49
  refine G.nmh fun h50 eh50 => ?_
  have hw := wp_bd hw h50 eh50
  obtain ⟨c51, hw⟩ := wp_ck hw
  refine G_putFR (v := (some a49)) fl_X10_flueAlike (Or.inr ⟨_, rfl⟩) w_506 rfl rfl dX10_init_99 c51 ?_
  refine G.nmh fun h52 eh52 => ?_
  have hw := wp_bd hw h52 eh52
  refine G_aload_n dX10_init_102 rfl ?_
  refine G_new kl_X6 w_400 dX10_init_103 (Nat.le_of_ble_eq_true rfl) (Nat.le_of_ble_eq_true rfl) ?_
  refine G.cse (cs' := (43, 5100)) rfl ?_
  obtain ⟨a53, ea53⟩ : ∃ z : Nat, z = hz h52 := ⟨_, rfl⟩
  rw [← ea53]
  have hw := wp_bd hw a53 ea53
  refine G.nmh fun h54 eh54 => ?_
  have hw := wp_bd hw h54 eh54
  refine G_dup dX10_init_106 rfl ?_
  refine G_callIN (As := []) (s_X6_init hs a53 h54 _ (wp_cl hw)) ca_X6_init rfl w_403 w_402 (Nat.le_of_ble_eq_true rfl) (Nat.le_of_ble_eq_true rfl) rfl (Nat.le_of_ble_eq_true rfl) (Nat.le_of_ble_eq_true rfl) (Nat.le_of_ble_eq_true rfl) dX10_init_107 rfl (fun v h56 hq => ?_)
  obtain ⟨rfl, hw⟩ := hq
  refine G.cse (cs' := (60, 8286)) rfl ?_
  show GZ _ _ _ _ _ _ _ 110 _ [.ref a53, .ref l0] _ _
  obtain ⟨c57, hw⟩ := wp_ck hw
  refine G_putR (v := (some a53)) fl_X10_valley (Or.inl ⟨_, rfl⟩) w_507 dX10_init_110 c57 ?_
  refine G.nmh fun h58 eh58 => ?_
  have hw := wp_bd hw h58 eh58
  refine G_aload_n dX10_init_113 rfl ?_
  refine G_new kl_X6 w_400 dX10_init_114 (Nat.le_of_ble_eq_true rfl) (Nat.le_of_ble_eq_true rfl) ?_
  refine G.cse (cs' := (61, 8301)) rfl ?_
  obtain ⟨a59, ea59⟩ : ∃ z : Nat, z = hz h58 := ⟨_, rfl⟩
  rw [← ea59]
  have hw := wp_bd hw a59 ea59
  refine G.nmh fun h60 eh60 => ?_
  have hw := wp_bd hw h60 eh60
  refine G_dup dX10_init_117 rfl ?_
  refine G_callIN (As := []) (s_X6_init hs a59 h60 _ (wp_cl hw)) ca_X6_init rfl w_403 w_402 (Nat.le_of_ble_eq_true rfl) (Nat.le_of_ble_eq_true rfl) rfl (Nat.le_of_ble_eq_true rfl) (Nat.le_of_ble_eq_true rfl) (Nat.le_of_ble_eq_true rfl) dX10_init_118 rfl (fun v h62 hq => ?_)
  obtain ⟨rfl, hw⟩ := hq
  refine G.cse (cs' := (78, 11487)) rfl ?_
  show GZ _ _ _ _ _ _ _ 121 _ [.ref a59, .ref l0] _ _
  obtain ⟨c63, hw⟩ := wp_ck hw
  refine G_putR (v := (some a59)) fl_X10_spareValley (Or.inl ⟨_, rfl⟩) w_508 dX10_init_121 c63 ?_
  refine G.nmh fun h64 eh64 => ?_
  have hw := wp_bd hw h64 eh64
  refine G_iconst (v := (0 : Int32)) dX10_init_124 (by decide) ?_
  refine G_istore_n (lv' := [some (.ref l0), some (.int (0 : Int32))]) dX10_init_125 (Nat.le_of_ble_eq_true rfl) rfl ?_
  refine G_iload_n dX10_init_126 rfl ?_
  refine G_iconst (v := (4 : Int32)) dX10_init_127 (by decide) ?_
  refine G_icmp_ge (tgt := 150) dX10_init_128 rfl (fun q => absurd q (by decide)) (fun _ => ?_)
  refine G_aload_n dX10_init_131 rfl ?_
  obtain ⟨c65, hw⟩ := wp_ck hw
  refine G_getR fl_X10_marks w_499 dX10_init_132 c65 ?_
  obtain ⟨a66, ea66, hw⟩ := wp_rq hw
  refine G.sure ea66 ?_
  refine G_iload_n dX10_init_135 rfl ?_
  refine G_new kl_X2 w_201 dX10_init_136 (Nat.le_of_ble_eq_true rfl) (Nat.le_of_ble_eq_true rfl) ?_
  refine G.cse (cs' := (79, 11493)) rfl ?_
  obtain ⟨a67, ea67⟩ : ∃ z : Nat, z = hz h64 := ⟨_, rfl⟩
  rw [← ea67]
  have hw := wp_bd hw a67 ea67
  refine G.nmh fun h68 eh68 => ?_
  have hw := wp_bd hw h68 eh68
  refine G_dup dX10_init_139 rfl ?_
  refine G_callIN (As := []) (s_X2_init hs a67 h68 _ (wp_cl hw)) ca_X2_init rfl w_204 w_203 (Nat.le_of_ble_eq_true rfl) (Nat.le_of_ble_eq_true rfl) rfl (Nat.le_of_ble_eq_true rfl) (Nat.le_of_ble_eq_true rfl) (Nat.le_of_ble_eq_true rfl) dX10_init_140 rfl (fun v h70 hq => ?_)
  obtain ⟨rfl, hw⟩ := hq
  refine G.cse (cs' := (89, 11755)) rfl ?_
  show GZ _ _ _ _ _ _ _ 143 _ [.ref a67, .int (0 : Int32), .ref a66] _ _
  obtain ⟨c71, hw⟩ := wp_ck hw
  obtain ⟨c72, hw⟩ := wp_ck hw
  obtain ⟨c73, hw⟩ := wp_ck hw
  refine G_aastore15K (k := 0) dX10_init_143 c71 c72 (by decide) rfl c73 ?_
  refine G.nmh fun h74 eh74 => ?_
  have hw := wp_bd hw h74 eh74
  refine G_iinc (v := (1 : Int32)) (lv' := [some (.ref l0), some (.int (1 : Int32))]) dX10_init_144 rfl (by decide) (Nat.le_of_ble_eq_true rfl) rfl ?_
  refine G_goto (tgt := 126) dX10_init_147 rfl ?_
  refine G_iload_n dX10_init_126 rfl ?_
  refine G_iconst (v := (4 : Int32)) dX10_init_127 (by decide) ?_
  refine G_icmp_ge (tgt := 150) dX10_init_128 rfl (fun q => absurd q (by decide)) (fun _ => ?_)
  refine G_aload_n dX10_init_131 rfl ?_
  obtain ⟨c75, hw⟩ := wp_ck hw
  refine G_getR fl_X10_marks w_499 dX10_init_132 c75 ?_
  obtain ⟨a76, ea76, hw⟩ := wp_rq hw
  refine G.sure ea76 ?_
  refine G_iload_n dX10_init_135 rfl ?_
  refine G_new kl_X2 w_201 dX10_init_136 (Nat.le_of_ble_eq_true rfl) (Nat.le_of_ble_eq_true rfl) ?_
  refine G.cse (cs' := (90, 11761)) rfl ?_
  obtain ⟨a77, ea77⟩ : ∃ z : Nat, z = hz h74 := ⟨_, rfl⟩
  rw [← ea77]
  have hw := wp_bd hw a77 ea77
  refine G.nmh fun h78 eh78 => ?_
  have hw := wp_bd hw h78 eh78
  refine G_dup dX10_init_139 rfl ?_
  refine G_callIN (As := []) (s_X2_init hs a77 h78 _ (wp_cl hw)) ca_X2_init rfl w_204 w_203 (Nat.le_of_ble_eq_true rfl) (Nat.le_of_ble_eq_true rfl) rfl (Nat.le_of_ble_eq_true rfl) (Nat.le_of_ble_eq_true rfl) (Nat.le_of_ble_eq_true rfl) dX10_init_140 rfl (fun v h80 hq => ?_)
  obtain ⟨rfl, hw⟩ := hq
  refine G.cse (cs' := (100, 12023)) rfl ?_
  show GZ _ _ _ _ _ _ _ 143 _ [.ref a77, .int (1 : Int32), .ref a76] _ _
  obtain ⟨c81, hw⟩ := wp_ck hw
  obtain ⟨c82, hw⟩ := wp_ck hw
  obtain ⟨c83, hw⟩ := wp_ck hw
  refine G_aastore15K (k := 1) dX10_init_143 c81 c82 (by decide) rfl c83 ?_
  refine G.nmh fun h84 eh84 => ?_
  have hw := wp_bd hw h84 eh84
  refine G_iinc (v := (2 : Int32)) (lv' := [some (.ref l0), some (.int (2 : Int32))]) dX10_init_144 rfl (by decide) (Nat.le_of_ble_eq_true rfl) rfl ?_
  refine G_goto (tgt := 126) dX10_init_147 rfl ?_
  refine G_iload_n dX10_init_126 rfl ?_
  refine G_iconst (v := (4 : Int32)) dX10_init_127 (by decide) ?_
  refine G_icmp_ge (tgt := 150) dX10_init_128 rfl (fun q => absurd q (by decide)) (fun _ => ?_)
  refine G_aload_n dX10_init_131 rfl ?_
  obtain ⟨c85, hw⟩ := wp_ck hw
  refine G_getR fl_X10_marks w_499 dX10_init_132 c85 ?_
  obtain ⟨a86, ea86, hw⟩ := wp_rq hw
  refine G.sure ea86 ?_
  refine G_iload_n dX10_init_135 rfl ?_
  refine G_new kl_X2 w_201 dX10_init_136 (Nat.le_of_ble_eq_true rfl) (Nat.le_of_ble_eq_true rfl) ?_
  refine G.cse (cs' := (101, 12029)) rfl ?_
  obtain ⟨a87, ea87⟩ : ∃ z : Nat, z = hz h84 := ⟨_, rfl⟩
  rw [← ea87]
  have hw := wp_bd hw a87 ea87
  refine G.nmh fun h88 eh88 => ?_
  have hw := wp_bd hw h88 eh88
  refine G_dup dX10_init_139 rfl ?_
  refine G_callIN (As := []) (s_X2_init hs a87 h88 _ (wp_cl hw)) ca_X2_init rfl w_204 w_203 (Nat.le_of_ble_eq_true rfl) (Nat.le_of_ble_eq_true rfl) rfl (Nat.le_of_ble_eq_true rfl) (Nat.le_of_ble_eq_true rfl) (Nat.le_of_ble_eq_true rfl) dX10_init_140 rfl (fun v h90 hq => ?_)
  obtain ⟨rfl, hw⟩ := hq
  refine G.cse (cs' := (111, 12291)) rfl ?_
  show GZ _ _ _ _ _ _ _ 143 _ [.ref a87, .int (2 : Int32), .ref a86] _ _
  obtain ⟨c91, hw⟩ := wp_ck hw
  obtain ⟨c92, hw⟩ := wp_ck hw
  obtain ⟨c93, hw⟩ := wp_ck hw
  refine G_aastore15K (k := 2) dX10_init_143 c91 c92 (by decide) rfl c93 ?_
  refine G.nmh fun h94 eh94 => ?_
  have hw := wp_bd hw h94 eh94
  refine G_iinc (v := (3 : Int32)) (lv' := [some (.ref l0), some (.int (3 : Int32))]) dX10_init_144 rfl (by decide) (Nat.le_of_ble_eq_true rfl) rfl ?_
  refine G_goto (tgt := 126) dX10_init_147 rfl ?_
  refine G_iload_n dX10_init_126 rfl ?_
  refine G_iconst (v := (4 : Int32)) dX10_init_127 (by decide) ?_
  refine G_icmp_ge (tgt := 150) dX10_init_128 rfl (fun q => absurd q (by decide)) (fun _ => ?_)
  refine G_aload_n dX10_init_131 rfl ?_
  obtain ⟨c95, hw⟩ := wp_ck hw
  refine G_getR fl_X10_marks w_499 dX10_init_132 c95 ?_
  obtain ⟨a96, ea96, hw⟩ := wp_rq hw
  refine G.sure ea96 ?_
  refine G_iload_n dX10_init_135 rfl ?_
  refine G_new kl_X2 w_201 dX10_init_136 (Nat.le_of_ble_eq_true rfl) (Nat.le_of_ble_eq_true rfl) ?_
  refine G.cse (cs' := (112, 12297)) rfl ?_
  obtain ⟨a97, ea97⟩ : ∃ z : Nat, z = hz h94 := ⟨_, rfl⟩
  rw [← ea97]
  have hw := wp_bd hw a97 ea97
  refine G.nmh fun h98 eh98 => ?_
  have hw := wp_bd hw h98 eh98
  refine G_dup dX10_init_139 rfl ?_
  refine G_callIN (As := []) (s_X2_init hs a97 h98 _ (wp_cl hw)) ca_X2_init rfl w_204 w_203 (Nat.le_of_ble_eq_true rfl) (Nat.le_of_ble_eq_true rfl) rfl (Nat.le_of_ble_eq_true rfl) (Nat.le_of_ble_eq_true rfl) (Nat.le_of_ble_eq_true rfl) dX10_init_140 rfl (fun v h100 hq => ?_)
  obtain ⟨rfl, hw⟩ := hq
  refine G.cse (cs' := (122, 12559)) rfl ?_
  show GZ _ _ _ _ _ _ _ 143 _ [.ref a97, .int (3 : Int32), .ref a96] _ _
  obtain ⟨c101, hw⟩ := wp_ck hw
  obtain ⟨c102, hw⟩ := wp_ck hw
  obtain ⟨c103, hw⟩ := wp_ck hw
  refine G_aastore15K (k := 3) dX10_init_143 c101 c102 (by decide) rfl c103 ?_
  refine G.nmh fun h104 eh104 => ?_
  have hw := wp_bd hw h104 eh104
  refine G_iinc (v := (4 : Int32)) (lv' := [some (.ref l0), some (.int (4 : Int32))]) dX10_init_144 rfl (by decide) (Nat.le_of_ble_eq_true rfl) rfl ?_
  refine G_goto (tgt := 126) dX10_init_147 rfl ?_
  refine G_iload_n dX10_init_126 rfl ?_
  refine G_iconst (v := (4 : Int32)) dX10_init_127 (by decide) ?_
  refine G_icmp_ge (tgt := 150) dX10_init_128 rfl (fun _ => ?_) (fun q => absurd (by decide) q)
  refine G_iconst (v := (0 : Int32)) dX10_init_150 (by decide) ?_
  refine G_istore_n (lv' := [some (.ref l0), some (.int (0 : Int32))]) dX10_init_151 (Nat.le_of_ble_eq_true rfl) rfl ?_
  refine G_iload_n dX10_init_152 rfl ?_
  refine G_bipush (v := (16 : Int32)) dX10_init_153 (by decide) ?_
  refine G_icmp_ge (tgt := 177) dX10_init_155 rfl (fun q => absurd q (by decide)) (fun _ => ?_)
  refine G_aload_n dX10_init_158 rfl ?_
  obtain ⟨c105, hw⟩ := wp_ck hw
  refine G_getR fl_X10_past w_500 dX10_init_159 c105 ?_
  obtain ⟨a106, ea106, hw⟩ := wp_rq hw
  refine G.sure ea106 ?_
  refine G_iload_n dX10_init_162 rfl ?_
  refine G_new kl_X4 w_279 dX10_init_163 (Nat.le_of_ble_eq_true rfl) (Nat.le_of_ble_eq_true rfl) ?_
  refine G.cse (cs' := (123, 12564)) rfl ?_
  obtain ⟨a107, ea107⟩ : ∃ z : Nat, z = hz h104 := ⟨_, rfl⟩
  rw [← ea107]
  have hw := wp_bd hw a107 ea107
  refine G.nmh fun h108 eh108 => ?_
  have hw := wp_bd hw h108 eh108
  refine G_dup dX10_init_166 rfl ?_
  refine G_callI (As := []) (s_X4_init hs a107 h108 _ (wp_cl hw)) ca_X4_init rfl w_210 w_281 (Nat.le_of_ble_eq_true rfl) (Nat.le_of_ble_eq_true rfl) rfl (Nat.le_of_ble_eq_true rfl) (Nat.le_of_ble_eq_true rfl) (Nat.le_of_ble_eq_true rfl) dX10_init_167 rfl (fun v h110 hq => ?_)
  obtain ⟨rfl, hw⟩ := hq
  refine G.cse (cs' := (127, 12595)) rfl ?_
  show GZ _ _ _ _ _ _ _ 170 _ [.ref a107, .int (0 : Int32), .ref a106] _ _
  obtain ⟨c111, hw⟩ := wp_ck hw
  obtain ⟨c112, hw⟩ := wp_ck hw
  obtain ⟨c113, hw⟩ := wp_ck hw
  refine G_aastore16K (k := 0) dX10_init_170 c111 c112 (by decide) rfl c113 ?_
  refine G.nmh fun h114 eh114 => ?_
  have hw := wp_bd hw h114 eh114
  refine G_iinc (v := (1 : Int32)) (lv' := [some (.ref l0), some (.int (1 : Int32))]) dX10_init_171 rfl (by decide) (Nat.le_of_ble_eq_true rfl) rfl ?_
  refine G_goto (tgt := 152) dX10_init_174 rfl ?_
  refine G_iload_n dX10_init_152 rfl ?_
  refine G_bipush (v := (16 : Int32)) dX10_init_153 (by decide) ?_
  refine G_icmp_ge (tgt := 177) dX10_init_155 rfl (fun q => absurd q (by decide)) (fun _ => ?_)
  refine G_aload_n dX10_init_158 rfl ?_
  obtain ⟨c115, hw⟩ := wp_ck hw
  refine G_getR fl_X10_past w_500 dX10_init_159 c115 ?_
  obtain ⟨a116, ea116, hw⟩ := wp_rq hw
  refine G.sure ea116 ?_
  refine G_iload_n dX10_init_162 rfl ?_
  refine G_new kl_X4 w_279 dX10_init_163 (Nat.le_of_ble_eq_true rfl) (Nat.le_of_ble_eq_true rfl) ?_
  refine G.cse (cs' := (128, 12600)) rfl ?_
  obtain ⟨a117, ea117⟩ : ∃ z : Nat, z = hz h114 := ⟨_, rfl⟩
  rw [← ea117]
  have hw := wp_bd hw a117 ea117
  refine G.nmh fun h118 eh118 => ?_
  have hw := wp_bd hw h118 eh118
  refine G_dup dX10_init_166 rfl ?_
  refine G_callI (As := []) (s_X4_init hs a117 h118 _ (wp_cl hw)) ca_X4_init rfl w_210 w_281 (Nat.le_of_ble_eq_true rfl) (Nat.le_of_ble_eq_true rfl) rfl (Nat.le_of_ble_eq_true rfl) (Nat.le_of_ble_eq_true rfl) (Nat.le_of_ble_eq_true rfl) dX10_init_167 rfl (fun v h120 hq => ?_)
  obtain ⟨rfl, hw⟩ := hq
  refine G.cse (cs' := (132, 12631)) rfl ?_
  show GZ _ _ _ _ _ _ _ 170 _ [.ref a117, .int (1 : Int32), .ref a116] _ _
  obtain ⟨c121, hw⟩ := wp_ck hw
  obtain ⟨c122, hw⟩ := wp_ck hw
  obtain ⟨c123, hw⟩ := wp_ck hw
  refine G_aastore16K (k := 1) dX10_init_170 c121 c122 (by decide) rfl c123 ?_
  refine G.nmh fun h124 eh124 => ?_
  have hw := wp_bd hw h124 eh124
  refine G_iinc (v := (2 : Int32)) (lv' := [some (.ref l0), some (.int (2 : Int32))]) dX10_init_171 rfl (by decide) (Nat.le_of_ble_eq_true rfl) rfl ?_
  refine G_goto (tgt := 152) dX10_init_174 rfl ?_
  refine G_iload_n dX10_init_152 rfl ?_
  refine G_bipush (v := (16 : Int32)) dX10_init_153 (by decide) ?_
  refine G_icmp_ge (tgt := 177) dX10_init_155 rfl (fun q => absurd q (by decide)) (fun _ => ?_)
  refine G_aload_n dX10_init_158 rfl ?_
  obtain ⟨c125, hw⟩ := wp_ck hw
  refine G_getR fl_X10_past w_500 dX10_init_159 c125 ?_
  obtain ⟨a126, ea126, hw⟩ := wp_rq hw
  refine G.sure ea126 ?_
  refine G_iload_n dX10_init_162 rfl ?_
  refine G_new kl_X4 w_279 dX10_init_163 (Nat.le_of_ble_eq_true rfl) (Nat.le_of_ble_eq_true rfl) ?_
  refine G.cse (cs' := (133, 12636)) rfl ?_
  obtain ⟨a127, ea127⟩ : ∃ z : Nat, z = hz h124 := ⟨_, rfl⟩
  rw [← ea127]
  have hw := wp_bd hw a127 ea127
  refine G.nmh fun h128 eh128 => ?_
  have hw := wp_bd hw h128 eh128
  refine G_dup dX10_init_166 rfl ?_
  refine G_callI (As := []) (s_X4_init hs a127 h128 _ (wp_cl hw)) ca_X4_init rfl w_210 w_281 (Nat.le_of_ble_eq_true rfl) (Nat.le_of_ble_eq_true rfl) rfl (Nat.le_of_ble_eq_true rfl) (Nat.le_of_ble_eq_true rfl) (Nat.le_of_ble_eq_true rfl) dX10_init_167 rfl (fun v h130 hq => ?_)
  obtain ⟨rfl, hw⟩ := hq
  refine G.cse (cs' := (137, 12667)) rfl ?_
  show GZ _ _ _ _ _ _ _ 170 _ [.ref a127, .int (2 : Int32), .ref a126] _ _
  obtain ⟨c131, hw⟩ := wp_ck hw
  obtain ⟨c132, hw⟩ := wp_ck hw
  obtain ⟨c133, hw⟩ := wp_ck hw
  refine G_aastore16K (k := 2) dX10_init_170 c131 c132 (by decide) rfl c133 ?_
  refine G.nmh fun h134 eh134 => ?_
  have hw := wp_bd hw h134 eh134
  refine G_iinc (v := (3 : Int32)) (lv' := [some (.ref l0), some (.int (3 : Int32))]) dX10_init_171 rfl (by decide) (Nat.le_of_ble_eq_true rfl) rfl ?_
  refine G_goto (tgt := 152) dX10_init_174 rfl ?_
  refine G_iload_n dX10_init_152 rfl ?_
  refine G_bipush (v := (16 : Int32)) dX10_init_153 (by decide) ?_
  refine G_icmp_ge (tgt := 177) dX10_init_155 rfl (fun q => absurd q (by decide)) (fun _ => ?_)
  refine G_aload_n dX10_init_158 rfl ?_
  obtain ⟨c135, hw⟩ := wp_ck hw
  refine G_getR fl_X10_past w_500 dX10_init_159 c135 ?_
  obtain ⟨a136, ea136, hw⟩ := wp_rq hw
  refine G.sure ea136 ?_
  refine G_iload_n dX10_init_162 rfl ?_
  refine G_new kl_X4 w_279 dX10_init_163 (Nat.le_of_ble_eq_true rfl) (Nat.le_of_ble_eq_true rfl) ?_
  refine G.cse (cs' := (138, 12672)) rfl ?_
  obtain ⟨a137, ea137⟩ : ∃ z : Nat, z = hz h134 := ⟨_, rfl⟩
  rw [← ea137]
  have hw := wp_bd hw a137 ea137
  refine G.nmh fun h138 eh138 => ?_
  have hw := wp_bd hw h138 eh138
  refine G_dup dX10_init_166 rfl ?_
  refine G_callI (As := []) (s_X4_init hs a137 h138 _ (wp_cl hw)) ca_X4_init rfl w_210 w_281 (Nat.le_of_ble_eq_true rfl) (Nat.le_of_ble_eq_true rfl) rfl (Nat.le_of_ble_eq_true rfl) (Nat.le_of_ble_eq_true rfl) (Nat.le_of_ble_eq_true rfl) dX10_init_167 rfl (fun v h140 hq => ?_)
  obtain ⟨rfl, hw⟩ := hq
  refine G.cse (cs' := (142, 12703)) rfl ?_
  show GZ _ _ _ _ _ _ _ 170 _ [.ref a137, .int (3 : Int32), .ref a136] _ _
  obtain ⟨c141, hw⟩ := wp_ck hw
  obtain ⟨c142, hw⟩ := wp_ck hw
  obtain ⟨c143, hw⟩ := wp_ck hw
  refine G_aastore16K (k := 3) dX10_init_170 c141 c142 (by decide) rfl c143 ?_
  refine G.nmh fun h144 eh144 => ?_
  have hw := wp_bd hw h144 eh144
  refine G_iinc (v := (4 : Int32)) (lv' := [some (.ref l0), some (.int (4 : Int32))]) dX10_init_171 rfl (by decide) (Nat.le_of_ble_eq_true rfl) rfl ?_
  refine G_goto (tgt := 152) dX10_init_174 rfl ?_
  refine G_iload_n dX10_init_152 rfl ?_
  refine G_bipush (v := (16 : Int32)) dX10_init_153 (by decide) ?_
  refine G_icmp_ge (tgt := 177) dX10_init_155 rfl (fun q => absurd q (by decide)) (fun _ => ?_)
  refine G_aload_n dX10_init_158 rfl ?_
  obtain ⟨c145, hw⟩ := wp_ck hw
  refine G_getR fl_X10_past w_500 dX10_init_159 c145 ?_
  obtain ⟨a146, ea146, hw⟩ := wp_rq hw
  refine G.sure ea146 ?_
  refine G_iload_n dX10_init_162 rfl ?_
  refine G_new kl_X4 w_279 dX10_init_163 (Nat.le_of_ble_eq_true rfl) (Nat.le_of_ble_eq_true rfl) ?_
  refine G.cse (cs' := (143, 12708)) rfl ?_
  obtain ⟨a147, ea147⟩ : ∃ z : Nat, z = hz h144 := ⟨_, rfl⟩
  rw [← ea147]
  have hw := wp_bd hw a147 ea147
  refine G.nmh fun h148 eh148 => ?_
  have hw := wp_bd hw h148 eh148
  refine G_dup dX10_init_166 rfl ?_
  refine G_callI (As := []) (s_X4_init hs a147 h148 _ (wp_cl hw)) ca_X4_init rfl w_210 w_281 (Nat.le_of_ble_eq_true rfl) (Nat.le_of_ble_eq_true rfl) rfl (Nat.le_of_ble_eq_true rfl) (Nat.le_of_ble_eq_true rfl) (Nat.le_of_ble_eq_true rfl) dX10_init_167 rfl (fun v h150 hq => ?_)
  obtain ⟨rfl, hw⟩ := hq
  refine G.cse (cs' := (147, 12739)) rfl ?_
  show GZ _ _ _ _ _ _ _ 170 _ [.ref a147, .int (4 : Int32), .ref a146] _ _
  obtain ⟨c151, hw⟩ := wp_ck hw
  obtain ⟨c152, hw⟩ := wp_ck hw
  obtain ⟨c153, hw⟩ := wp_ck hw
  refine G_aastore16K (k := 4) dX10_init_170 c151 c152 (by decide) rfl c153 ?_
  refine G.nmh fun h154 eh154 => ?_
  have hw := wp_bd hw h154 eh154
  refine G_iinc (v := (5 : Int32)) (lv' := [some (.ref l0), some (.int (5 : Int32))]) dX10_init_171 rfl (by decide) (Nat.le_of_ble_eq_true rfl) rfl ?_
  refine G_goto (tgt := 152) dX10_init_174 rfl ?_
  refine G_iload_n dX10_init_152 rfl ?_
  refine G_bipush (v := (16 : Int32)) dX10_init_153 (by decide) ?_
  refine G_icmp_ge (tgt := 177) dX10_init_155 rfl (fun q => absurd q (by decide)) (fun _ => ?_)
  refine G_aload_n dX10_init_158 rfl ?_
  obtain ⟨c155, hw⟩ := wp_ck hw
  refine G_getR fl_X10_past w_500 dX10_init_159 c155 ?_
  obtain ⟨a156, ea156, hw⟩ := wp_rq hw
  refine G.sure ea156 ?_
  refine G_iload_n dX10_init_162 rfl ?_
  refine G_new kl_X4 w_279 dX10_init_163 (Nat.le_of_ble_eq_true rfl) (Nat.le_of_ble_eq_true rfl) ?_
  refine G.cse (cs' := (148, 12744)) rfl ?_
  obtain ⟨a157, ea157⟩ : ∃ z : Nat, z = hz h154 := ⟨_, rfl⟩
  rw [← ea157]
  have hw := wp_bd hw a157 ea157
  refine G.nmh fun h158 eh158 => ?_
  have hw := wp_bd hw h158 eh158
  refine G_dup dX10_init_166 rfl ?_
  refine G_callI (As := []) (s_X4_init hs a157 h158 _ (wp_cl hw)) ca_X4_init rfl w_210 w_281 (Nat.le_of_ble_eq_true rfl) (Nat.le_of_ble_eq_true rfl) rfl (Nat.le_of_ble_eq_true rfl) (Nat.le_of_ble_eq_true rfl) (Nat.le_of_ble_eq_true rfl) dX10_init_167 rfl (fun v h160 hq => ?_)
  obtain ⟨rfl, hw⟩ := hq
  refine G.cse (cs' := (152, 12775)) rfl ?_
  show GZ _ _ _ _ _ _ _ 170 _ [.ref a157, .int (5 : Int32), .ref a156] _ _
  obtain ⟨c161, hw⟩ := wp_ck hw
  obtain ⟨c162, hw⟩ := wp_ck hw
  obtain ⟨c163, hw⟩ := wp_ck hw
  refine G_aastore16K (k := 5) dX10_init_170 c161 c162 (by decide) rfl c163 ?_
  refine G.nmh fun h164 eh164 => ?_
  have hw := wp_bd hw h164 eh164
  refine G_iinc (v := (6 : Int32)) (lv' := [some (.ref l0), some (.int (6 : Int32))]) dX10_init_171 rfl (by decide) (Nat.le_of_ble_eq_true rfl) rfl ?_
  refine G_goto (tgt := 152) dX10_init_174 rfl ?_
  refine G_iload_n dX10_init_152 rfl ?_
  refine G_bipush (v := (16 : Int32)) dX10_init_153 (by decide) ?_
  refine G_icmp_ge (tgt := 177) dX10_init_155 rfl (fun q => absurd q (by decide)) (fun _ => ?_)
  refine G_aload_n dX10_init_158 rfl ?_
  obtain ⟨c165, hw⟩ := wp_ck hw
  refine G_getR fl_X10_past w_500 dX10_init_159 c165 ?_
  obtain ⟨a166, ea166, hw⟩ := wp_rq hw
  refine G.sure ea166 ?_
  refine G_iload_n dX10_init_162 rfl ?_
  refine G_new kl_X4 w_279 dX10_init_163 (Nat.le_of_ble_eq_true rfl) (Nat.le_of_ble_eq_true rfl) ?_
  refine G.cse (cs' := (153, 12780)) rfl ?_
  obtain ⟨a167, ea167⟩ : ∃ z : Nat, z = hz h164 := ⟨_, rfl⟩
  rw [← ea167]
  have hw := wp_bd hw a167 ea167
  refine G.nmh fun h168 eh168 => ?_
  have hw := wp_bd hw h168 eh168
  refine G_dup dX10_init_166 rfl ?_
  refine G_callI (As := []) (s_X4_init hs a167 h168 _ (wp_cl hw)) ca_X4_init rfl w_210 w_281 (Nat.le_of_ble_eq_true rfl) (Nat.le_of_ble_eq_true rfl) rfl (Nat.le_of_ble_eq_true rfl) (Nat.le_of_ble_eq_true rfl) (Nat.le_of_ble_eq_true rfl) dX10_init_167 rfl (fun v h170 hq => ?_)
  obtain ⟨rfl, hw⟩ := hq
  refine G.cse (cs' := (157, 12811)) rfl ?_
  show GZ _ _ _ _ _ _ _ 170 _ [.ref a167, .int (6 : Int32), .ref a166] _ _
  obtain ⟨c171, hw⟩ := wp_ck hw
  obtain ⟨c172, hw⟩ := wp_ck hw
  obtain ⟨c173, hw⟩ := wp_ck hw
  refine G_aastore16K (k := 6) dX10_init_170 c171 c172 (by decide) rfl c173 ?_
  refine G.nmh fun h174 eh174 => ?_
  have hw := wp_bd hw h174 eh174
  refine G_iinc (v := (7 : Int32)) (lv' := [some (.ref l0), some (.int (7 : Int32))]) dX10_init_171 rfl (by decide) (Nat.le_of_ble_eq_true rfl) rfl ?_
  refine G_goto (tgt := 152) dX10_init_174 rfl ?_
  refine G_iload_n dX10_init_152 rfl ?_
  refine G_bipush (v := (16 : Int32)) dX10_init_153 (by decide) ?_
  refine G_icmp_ge (tgt := 177) dX10_init_155 rfl (fun q => absurd q (by decide)) (fun _ => ?_)
  refine G_aload_n dX10_init_158 rfl ?_
  obtain ⟨c175, hw⟩ := wp_ck hw
  refine G_getR fl_X10_past w_500 dX10_init_159 c175 ?_
  obtain ⟨a176, ea176, hw⟩ := wp_rq hw
  refine G.sure ea176 ?_
  refine G_iload_n dX10_init_162 rfl ?_
  refine G_new kl_X4 w_279 dX10_init_163 (Nat.le_of_ble_eq_true rfl) (Nat.le_of_ble_eq_true rfl) ?_
  refine G.cse (cs' := (158, 12816)) rfl ?_
  obtain ⟨a177, ea177⟩ : ∃ z : Nat, z = hz h174 := ⟨_, rfl⟩
  rw [← ea177]
  have hw := wp_bd hw a177 ea177
  refine G.nmh fun h178 eh178 => ?_
  have hw := wp_bd hw h178 eh178
  refine G_dup dX10_init_166 rfl ?_
  refine G_callI (As := []) (s_X4_init hs a177 h178 _ (wp_cl hw)) ca_X4_init rfl w_210 w_281 (Nat.le_of_ble_eq_true rfl) (Nat.le_of_ble_eq_true rfl) rfl (Nat.le_of_ble_eq_true rfl) (Nat.le_of_ble_eq_true rfl) (Nat.le_of_ble_eq_true rfl) dX10_init_167 rfl (fun v h180 hq => ?_)
  obtain ⟨rfl, hw⟩ := hq
  refine G.cse (cs' := (162, 12847)) rfl ?_
  show GZ _ _ _ _ _ _ _ 170 _ [.ref a177, .int (7 : Int32), .ref a176] _ _
  obtain ⟨c181, hw⟩ := wp_ck hw
  obtain ⟨c182, hw⟩ := wp_ck hw
  obtain ⟨c183, hw⟩ := wp_ck hw
  refine G_aastore16K (k := 7) dX10_init_170 c181 c182 (by decide) rfl c183 ?_
  refine G.nmh fun h184 eh184 => ?_
  have hw := wp_bd hw h184 eh184
  refine G_iinc (v := (8 : Int32)) (lv' := [some (.ref l0), some (.int (8 : Int32))]) dX10_init_171 rfl (by decide) (Nat.le_of_ble_eq_true rfl) rfl ?_
  refine G_goto (tgt := 152) dX10_init_174 rfl ?_
  refine G_iload_n dX10_init_152 rfl ?_
  refine G_bipush (v := (16 : Int32)) dX10_init_153 (by decide) ?_
  refine G_icmp_ge (tgt := 177) dX10_init_155 rfl (fun q => absurd q (by decide)) (fun _ => ?_)
  refine G_aload_n dX10_init_158 rfl ?_
  obtain ⟨c185, hw⟩ := wp_ck hw
  refine G_getR fl_X10_past w_500 dX10_init_159 c185 ?_
  obtain ⟨a186, ea186, hw⟩ := wp_rq hw
  refine G.sure ea186 ?_
  refine G_iload_n dX10_init_162 rfl ?_
  refine G_new kl_X4 w_279 dX10_init_163 (Nat.le_of_ble_eq_true rfl) (Nat.le_of_ble_eq_true rfl) ?_
  refine G.cse (cs' := (163, 12852)) rfl ?_
  obtain ⟨a187, ea187⟩ : ∃ z : Nat, z = hz h184 := ⟨_, rfl⟩
  rw [← ea187]
  have hw := wp_bd hw a187 ea187
  refine G.nmh fun h188 eh188 => ?_
  have hw := wp_bd hw h188 eh188
  refine G_dup dX10_init_166 rfl ?_
  refine G_callI (As := []) (s_X4_init hs a187 h188 _ (wp_cl hw)) ca_X4_init rfl w_210 w_281 (Nat.le_of_ble_eq_true rfl) (Nat.le_of_ble_eq_true rfl) rfl (Nat.le_of_ble_eq_true rfl) (Nat.le_of_ble_eq_true rfl) (Nat.le_of_ble_eq_true rfl) dX10_init_167 rfl (fun v h190 hq => ?_)
  obtain ⟨rfl, hw⟩ := hq
  refine G.cse (cs' := (167, 12883)) rfl ?_
  show GZ _ _ _ _ _ _ _ 170 _ [.ref a187, .int (8 : Int32), .ref a186] _ _
  obtain ⟨c191, hw⟩ := wp_ck hw
  obtain ⟨c192, hw⟩ := wp_ck hw
  obtain ⟨c193, hw⟩ := wp_ck hw
  refine G_aastore16K (k := 8) dX10_init_170 c191 c192 (by decide) rfl c193 ?_
  refine G.nmh fun h194 eh194 => ?_
  have hw := wp_bd hw h194 eh194
  refine G_iinc (v := (9 : Int32)) (lv' := [some (.ref l0), some (.int (9 : Int32))]) dX10_init_171 rfl (by decide) (Nat.le_of_ble_eq_true rfl) rfl ?_
  refine G_goto (tgt := 152) dX10_init_174 rfl ?_
  refine G_iload_n dX10_init_152 rfl ?_
  refine G_bipush (v := (16 : Int32)) dX10_init_153 (by decide) ?_
  refine G_icmp_ge (tgt := 177) dX10_init_155 rfl (fun q => absurd q (by decide)) (fun _ => ?_)
  refine G_aload_n dX10_init_158 rfl ?_
  obtain ⟨c195, hw⟩ := wp_ck hw
  refine G_getR fl_X10_past w_500 dX10_init_159 c195 ?_
  obtain ⟨a196, ea196, hw⟩ := wp_rq hw
  refine G.sure ea196 ?_
  refine G_iload_n dX10_init_162 rfl ?_
  refine G_new kl_X4 w_279 dX10_init_163 (Nat.le_of_ble_eq_true rfl) (Nat.le_of_ble_eq_true rfl) ?_
  refine G.cse (cs' := (168, 12888)) rfl ?_
  obtain ⟨a197, ea197⟩ : ∃ z : Nat, z = hz h194 := ⟨_, rfl⟩
  rw [← ea197]
  have hw := wp_bd hw a197 ea197
  refine G.nmh fun h198 eh198 => ?_
  have hw := wp_bd hw h198 eh198
  refine G_dup dX10_init_166 rfl ?_
  refine G_callI (As := []) (s_X4_init hs a197 h198 _ (wp_cl hw)) ca_X4_init rfl w_210 w_281 (Nat.le_of_ble_eq_true rfl) (Nat.le_of_ble_eq_true rfl) rfl (Nat.le_of_ble_eq_true rfl) (Nat.le_of_ble_eq_true rfl) (Nat.le_of_ble_eq_true rfl) dX10_init_167 rfl (fun v h200 hq => ?_)
  obtain ⟨rfl, hw⟩ := hq
  refine G.cse (cs' := (172, 12919)) rfl ?_
  show GZ _ _ _ _ _ _ _ 170 _ [.ref a197, .int (9 : Int32), .ref a196] _ _
  obtain ⟨c201, hw⟩ := wp_ck hw
  obtain ⟨c202, hw⟩ := wp_ck hw
  obtain ⟨c203, hw⟩ := wp_ck hw
  refine G_aastore16K (k := 9) dX10_init_170 c201 c202 (by decide) rfl c203 ?_
  refine G.nmh fun h204 eh204 => ?_
  have hw := wp_bd hw h204 eh204
  refine G_iinc (v := (10 : Int32)) (lv' := [some (.ref l0), some (.int (10 : Int32))]) dX10_init_171 rfl (by decide) (Nat.le_of_ble_eq_true rfl) rfl ?_
  refine G_goto (tgt := 152) dX10_init_174 rfl ?_
  refine G_iload_n dX10_init_152 rfl ?_
  refine G_bipush (v := (16 : Int32)) dX10_init_153 (by decide) ?_
  refine G_icmp_ge (tgt := 177) dX10_init_155 rfl (fun q => absurd q (by decide)) (fun _ => ?_)
  refine G_aload_n dX10_init_158 rfl ?_
  obtain ⟨c205, hw⟩ := wp_ck hw
  refine G_getR fl_X10_past w_500 dX10_init_159 c205 ?_
  obtain ⟨a206, ea206, hw⟩ := wp_rq hw
  refine G.sure ea206 ?_
  refine G_iload_n dX10_init_162 rfl ?_
  refine G_new kl_X4 w_279 dX10_init_163 (Nat.le_of_ble_eq_true rfl) (Nat.le_of_ble_eq_true rfl) ?_
  refine G.cse (cs' := (173, 12924)) rfl ?_
  obtain ⟨a207, ea207⟩ : ∃ z : Nat, z = hz h204 := ⟨_, rfl⟩
  rw [← ea207]
  have hw := wp_bd hw a207 ea207
  refine G.nmh fun h208 eh208 => ?_
  have hw := wp_bd hw h208 eh208
  refine G_dup dX10_init_166 rfl ?_
  refine G_callI (As := []) (s_X4_init hs a207 h208 _ (wp_cl hw)) ca_X4_init rfl w_210 w_281 (Nat.le_of_ble_eq_true rfl) (Nat.le_of_ble_eq_true rfl) rfl (Nat.le_of_ble_eq_true rfl) (Nat.le_of_ble_eq_true rfl) (Nat.le_of_ble_eq_true rfl) dX10_init_167 rfl (fun v h210 hq => ?_)
  obtain ⟨rfl, hw⟩ := hq
  refine G.cse (cs' := (177, 12955)) rfl ?_
  show GZ _ _ _ _ _ _ _ 170 _ [.ref a207, .int (10 : Int32), .ref a206] _ _
  obtain ⟨c211, hw⟩ := wp_ck hw
  obtain ⟨c212, hw⟩ := wp_ck hw
  obtain ⟨c213, hw⟩ := wp_ck hw
  refine G_aastore16K (k := 10) dX10_init_170 c211 c212 (by decide) rfl c213 ?_
  refine G.nmh fun h214 eh214 => ?_
  have hw := wp_bd hw h214 eh214
  refine G_iinc (v := (11 : Int32)) (lv' := [some (.ref l0), some (.int (11 : Int32))]) dX10_init_171 rfl (by decide) (Nat.le_of_ble_eq_true rfl) rfl ?_
  refine G_goto (tgt := 152) dX10_init_174 rfl ?_
  refine G_iload_n dX10_init_152 rfl ?_
  refine G_bipush (v := (16 : Int32)) dX10_init_153 (by decide) ?_
  refine G_icmp_ge (tgt := 177) dX10_init_155 rfl (fun q => absurd q (by decide)) (fun _ => ?_)
  refine G_aload_n dX10_init_158 rfl ?_
  obtain ⟨c215, hw⟩ := wp_ck hw
  refine G_getR fl_X10_past w_500 dX10_init_159 c215 ?_
  obtain ⟨a216, ea216, hw⟩ := wp_rq hw
  refine G.sure ea216 ?_
  refine G_iload_n dX10_init_162 rfl ?_
  refine G_new kl_X4 w_279 dX10_init_163 (Nat.le_of_ble_eq_true rfl) (Nat.le_of_ble_eq_true rfl) ?_
  refine G.cse (cs' := (178, 12960)) rfl ?_
  obtain ⟨a217, ea217⟩ : ∃ z : Nat, z = hz h214 := ⟨_, rfl⟩
  rw [← ea217]
  have hw := wp_bd hw a217 ea217
  refine G.nmh fun h218 eh218 => ?_
  have hw := wp_bd hw h218 eh218
  refine G_dup dX10_init_166 rfl ?_
  refine G_callI (As := []) (s_X4_init hs a217 h218 _ (wp_cl hw)) ca_X4_init rfl w_210 w_281 (Nat.le_of_ble_eq_true rfl) (Nat.le_of_ble_eq_true rfl) rfl (Nat.le_of_ble_eq_true rfl) (Nat.le_of_ble_eq_true rfl) (Nat.le_of_ble_eq_true rfl) dX10_init_167 rfl (fun v h220 hq => ?_)
  obtain ⟨rfl, hw⟩ := hq
  refine G.cse (cs' := (182, 12991)) rfl ?_
  show GZ _ _ _ _ _ _ _ 170 _ [.ref a217, .int (11 : Int32), .ref a216] _ _
  obtain ⟨c221, hw⟩ := wp_ck hw
  obtain ⟨c222, hw⟩ := wp_ck hw
  obtain ⟨c223, hw⟩ := wp_ck hw
  refine G_aastore16K (k := 11) dX10_init_170 c221 c222 (by decide) rfl c223 ?_
  refine G.nmh fun h224 eh224 => ?_
  have hw := wp_bd hw h224 eh224
  refine G_iinc (v := (12 : Int32)) (lv' := [some (.ref l0), some (.int (12 : Int32))]) dX10_init_171 rfl (by decide) (Nat.le_of_ble_eq_true rfl) rfl ?_
  refine G_goto (tgt := 152) dX10_init_174 rfl ?_
  refine G_iload_n dX10_init_152 rfl ?_
  refine G_bipush (v := (16 : Int32)) dX10_init_153 (by decide) ?_
  refine G_icmp_ge (tgt := 177) dX10_init_155 rfl (fun q => absurd q (by decide)) (fun _ => ?_)
  refine G_aload_n dX10_init_158 rfl ?_
  obtain ⟨c225, hw⟩ := wp_ck hw
  refine G_getR fl_X10_past w_500 dX10_init_159 c225 ?_
  obtain ⟨a226, ea226, hw⟩ := wp_rq hw
  refine G.sure ea226 ?_
  refine G_iload_n dX10_init_162 rfl ?_
  refine G_new kl_X4 w_279 dX10_init_163 (Nat.le_of_ble_eq_true rfl) (Nat.le_of_ble_eq_true rfl) ?_
  refine G.cse (cs' := (183, 12996)) rfl ?_
  obtain ⟨a227, ea227⟩ : ∃ z : Nat, z = hz h224 := ⟨_, rfl⟩
  rw [← ea227]
  have hw := wp_bd hw a227 ea227
  refine G.nmh fun h228 eh228 => ?_
  have hw := wp_bd hw h228 eh228
  refine G_dup dX10_init_166 rfl ?_
  refine G_callI (As := []) (s_X4_init hs a227 h228 _ (wp_cl hw)) ca_X4_init rfl w_210 w_281 (Nat.le_of_ble_eq_true rfl) (Nat.le_of_ble_eq_true rfl) rfl (Nat.le_of_ble_eq_true rfl) (Nat.le_of_ble_eq_true rfl) (Nat.le_of_ble_eq_true rfl) dX10_init_167 rfl (fun v h230 hq => ?_)
  obtain ⟨rfl, hw⟩ := hq
  refine G.cse (cs' := (187, 13027)) rfl ?_
  show GZ _ _ _ _ _ _ _ 170 _ [.ref a227, .int (12 : Int32), .ref a226] _ _
  obtain ⟨c231, hw⟩ := wp_ck hw
  obtain ⟨c232, hw⟩ := wp_ck hw
  obtain ⟨c233, hw⟩ := wp_ck hw
  refine G_aastore16K (k := 12) dX10_init_170 c231 c232 (by decide) rfl c233 ?_
  refine G.nmh fun h234 eh234 => ?_
  have hw := wp_bd hw h234 eh234
  refine G_iinc (v := (13 : Int32)) (lv' := [some (.ref l0), some (.int (13 : Int32))]) dX10_init_171 rfl (by decide) (Nat.le_of_ble_eq_true rfl) rfl ?_
  refine G_goto (tgt := 152) dX10_init_174 rfl ?_
  refine G_iload_n dX10_init_152 rfl ?_
  refine G_bipush (v := (16 : Int32)) dX10_init_153 (by decide) ?_
  refine G_icmp_ge (tgt := 177) dX10_init_155 rfl (fun q => absurd q (by decide)) (fun _ => ?_)
  refine G_aload_n dX10_init_158 rfl ?_
  obtain ⟨c235, hw⟩ := wp_ck hw
  refine G_getR fl_X10_past w_500 dX10_init_159 c235 ?_
  obtain ⟨a236, ea236, hw⟩ := wp_rq hw
  refine G.sure ea236 ?_
  refine G_iload_n dX10_init_162 rfl ?_
  refine G_new kl_X4 w_279 dX10_init_163 (Nat.le_of_ble_eq_true rfl) (Nat.le_of_ble_eq_true rfl) ?_
  refine G.cse (cs' := (188, 13032)) rfl ?_
  obtain ⟨a237, ea237⟩ : ∃ z : Nat, z = hz h234 := ⟨_, rfl⟩
  rw [← ea237]
  have hw := wp_bd hw a237 ea237
  refine G.nmh fun h238 eh238 => ?_
  have hw := wp_bd hw h238 eh238
  refine G_dup dX10_init_166 rfl ?_
  refine G_callI (As := []) (s_X4_init hs a237 h238 _ (wp_cl hw)) ca_X4_init rfl w_210 w_281 (Nat.le_of_ble_eq_true rfl) (Nat.le_of_ble_eq_true rfl) rfl (Nat.le_of_ble_eq_true rfl) (Nat.le_of_ble_eq_true rfl) (Nat.le_of_ble_eq_true rfl) dX10_init_167 rfl (fun v h240 hq => ?_)
  obtain ⟨rfl, hw⟩ := hq
  refine G.cse (cs' := (192, 13063)) rfl ?_
  show GZ _ _ _ _ _ _ _ 170 _ [.ref a237, .int (13 : Int32), .ref a236] _ _
  obtain ⟨c241, hw⟩ := wp_ck hw
  obtain ⟨c242, hw⟩ := wp_ck hw
  obtain ⟨c243, hw⟩ := wp_ck hw
  refine G_aastore16K (k := 13) dX10_init_170 c241 c242 (by decide) rfl c243 ?_
  refine G.nmh fun h244 eh244 => ?_
  have hw := wp_bd hw h244 eh244
  refine G_iinc (v := (14 : Int32)) (lv' := [some (.ref l0), some (.int (14 : Int32))]) dX10_init_171 rfl (by decide) (Nat.le_of_ble_eq_true rfl) rfl ?_
  refine G_goto (tgt := 152) dX10_init_174 rfl ?_
  refine G_iload_n dX10_init_152 rfl ?_
  refine G_bipush (v := (16 : Int32)) dX10_init_153 (by decide) ?_
  refine G_icmp_ge (tgt := 177) dX10_init_155 rfl (fun q => absurd q (by decide)) (fun _ => ?_)
  refine G_aload_n dX10_init_158 rfl ?_
  obtain ⟨c245, hw⟩ := wp_ck hw
  refine G_getR fl_X10_past w_500 dX10_init_159 c245 ?_
  obtain ⟨a246, ea246, hw⟩ := wp_rq hw
  refine G.sure ea246 ?_
  refine G_iload_n dX10_init_162 rfl ?_
  refine G_new kl_X4 w_279 dX10_init_163 (Nat.le_of_ble_eq_true rfl) (Nat.le_of_ble_eq_true rfl) ?_
  refine G.cse (cs' := (193, 13068)) rfl ?_
  obtain ⟨a247, ea247⟩ : ∃ z : Nat, z = hz h244 := ⟨_, rfl⟩
  rw [← ea247]
  have hw := wp_bd hw a247 ea247
  refine G.nmh fun h248 eh248 => ?_
  have hw := wp_bd hw h248 eh248
  refine G_dup dX10_init_166 rfl ?_
  refine G_callI (As := []) (s_X4_init hs a247 h248 _ (wp_cl hw)) ca_X4_init rfl w_210 w_281 (Nat.le_of_ble_eq_true rfl) (Nat.le_of_ble_eq_true rfl) rfl (Nat.le_of_ble_eq_true rfl) (Nat.le_of_ble_eq_true rfl) (Nat.le_of_ble_eq_true rfl) dX10_init_167 rfl (fun v h250 hq => ?_)
  obtain ⟨rfl, hw⟩ := hq
  refine G.cse (cs' := (197, 13099)) rfl ?_
  show GZ _ _ _ _ _ _ _ 170 _ [.ref a247, .int (14 : Int32), .ref a246] _ _
  obtain ⟨c251, hw⟩ := wp_ck hw
  obtain ⟨c252, hw⟩ := wp_ck hw
  obtain ⟨c253, hw⟩ := wp_ck hw
  refine G_aastore16K (k := 14) dX10_init_170 c251 c252 (by decide) rfl c253 ?_
  refine G.nmh fun h254 eh254 => ?_
  have hw := wp_bd hw h254 eh254
  refine G_iinc (v := (15 : Int32)) (lv' := [some (.ref l0), some (.int (15 : Int32))]) dX10_init_171 rfl (by decide) (Nat.le_of_ble_eq_true rfl) rfl ?_
  refine G_goto (tgt := 152) dX10_init_174 rfl ?_
  refine G_iload_n dX10_init_152 rfl ?_
  refine G_bipush (v := (16 : Int32)) dX10_init_153 (by decide) ?_
  refine G_icmp_ge (tgt := 177) dX10_init_155 rfl (fun q => absurd q (by decide)) (fun _ => ?_)
  refine G_aload_n dX10_init_158 rfl ?_
  obtain ⟨c255, hw⟩ := wp_ck hw
  refine G_getR fl_X10_past w_500 dX10_init_159 c255 ?_
  obtain ⟨a256, ea256, hw⟩ := wp_rq hw
  refine G.sure ea256 ?_
  refine G_iload_n dX10_init_162 rfl ?_
  refine G_new kl_X4 w_279 dX10_init_163 (Nat.le_of_ble_eq_true rfl) (Nat.le_of_ble_eq_true rfl) ?_
  refine G.cse (cs' := (198, 13104)) rfl ?_
  obtain ⟨a257, ea257⟩ : ∃ z : Nat, z = hz h254 := ⟨_, rfl⟩
  rw [← ea257]
  have hw := wp_bd hw a257 ea257
  refine G.nmh fun h258 eh258 => ?_
  have hw := wp_bd hw h258 eh258
  refine G_dup dX10_init_166 rfl ?_
  refine G_callI (As := []) (s_X4_init hs a257 h258 _ (wp_cl hw)) ca_X4_init rfl w_210 w_281 (Nat.le_of_ble_eq_true rfl) (Nat.le_of_ble_eq_true rfl) rfl (Nat.le_of_ble_eq_true rfl) (Nat.le_of_ble_eq_true rfl) (Nat.le_of_ble_eq_true rfl) dX10_init_167 rfl (fun v h260 hq => ?_)
  obtain ⟨rfl, hw⟩ := hq
  refine G.cse (cs' := (202, 13135)) rfl ?_
  show GZ _ _ _ _ _ _ _ 170 _ [.ref a257, .int (15 : Int32), .ref a256] _ _
  obtain ⟨c261, hw⟩ := wp_ck hw
  obtain ⟨c262, hw⟩ := wp_ck hw
  obtain ⟨c263, hw⟩ := wp_ck hw
  refine G_aastore16K (k := 15) dX10_init_170 c261 c262 (by decide) rfl c263 ?_
  refine G.nmh fun h264 eh264 => ?_
  have hw := wp_bd hw h264 eh264
  refine G_iinc (v := (16 : Int32)) (lv' := [some (.ref l0), some (.int (16 : Int32))]) dX10_init_171 rfl (by decide) (Nat.le_of_ble_eq_true rfl) rfl ?_
  refine G_goto (tgt := 152) dX10_init_174 rfl ?_
  refine G_iload_n dX10_init_152 rfl ?_
  refine G_bipush (v := (16 : Int32)) dX10_init_153 (by decide) ?_
  refine G_icmp_ge (tgt := 177) dX10_init_155 rfl (fun _ => ?_) (fun q => absurd (by decide) q)
  exact G_vreturn rfl dX10_init_177 ⟨rfl, wp_ret hw⟩
set_option maxHeartbeats 4000000 in
set_option maxRecDepth 100000 in
theorem f_X11_fresh_57_bok {Γ : GX} (hs : SF Γ) {N : Nat} {K_45 : Nat → Int32 → PH → Option (Unit × PH)} {K_57 : Nat → Int32 → Int32 → PH → Option (Unit × PH)} (hK_45 : ∀ (l0 : Nat) (l1 : Int32) (h : PH) (Q : Unit → PH → Prop), wp (K_45 l0 l1 h) Q → G Γ yX11_fresh cX11_fresh 3 none (2, 0, 0) 45 [some (.ref l0), some (.int l1), none] [] h (0, 0) (q_u Q)) (hK_57 : ∀ (l0 : Nat) (l1 : Int32) (l2 : Int32) (h : PH) (Q : Unit → PH → Prop), wp (K_57 l0 l1 l2 h) Q → G Γ yX11_fresh cX11_fresh 3 none (2, 0, 0) 57 [some (.ref l0), some (.int l1), some (.int l2)] [] h (0, 0) (q_u Q)) (l0 : Nat) (l1 : Int32) (l2 : Int32) (h : PH) (Q : Unit → PH → Prop) (hw : wp (f_X11_fresh_57_b N K_45 K_57 l0 l1 l2 h) Q) : G Γ yX11_fresh cX11_fresh 3 none (2, 0, 0) 57 [some (.ref l0), some (.int l1), some (.int l2)] [] h (0, 0) (q_u Q) := by
  unfold f_X11_fresh_57_b at hw
  refine G_iload_n dX11_fresh_57 rfl ?_
  refine G_iconst (v := (5 : Int32)) dX11_fresh_58 (by decide) ?_
  have hw := wp_if hw
  refine G_icmp_ge (tgt := 95) dX11_fresh_59 rfl (fun c1 => ?_) (fun c1 => ?_)
  · have hw := hw.1 c1
    obtain ⟨v2, ev2⟩ : ∃ z : Int32, z = l1 + (1 : Int32) := ⟨_, rfl⟩
    have hw := wp_bd hw v2 ev2
    refine G_iinc (v := v2) (lv' := [some (.ref l0), some (.int v2), some (.int l2)]) dX11_fresh_95 rfl (by rw [ev2]; rfl) (Nat.le_of_ble_eq_true rfl) rfl ?_
    refine G_goto (tgt := 45) dX11_fresh_98 rfl ?_
    refine G.less [some (.ref l0), some (.int v2), none] ⟨rfl, ⟨rfl, trivial⟩⟩ ?_
    exact hK_45 _ _ h Q hw
  · have hw := hw.2 c1
    refine G_aload_n dX11_fresh_62 rfl ?_
    obtain ⟨c3, hw⟩ := wp_ck hw
    refine G_getR fl_X11_s w_1442 dX11_fresh_63 c3 ?_
    obtain ⟨a4, ea4, hw⟩ := wp_rq hw
    refine G.sure ea4 ?_
    refine G_bipush (v := (9 : Int32)) dX11_fresh_66 (by decide) ?_
    refine G_iconst (v := (5 : Int32)) dX11_fresh_68 (by decide) ?_
    refine G_iload_n dX11_fresh_69 rfl ?_
    refine G_imul dX11_fresh_70 ?_
    refine G_iadd dX11_fresh_71 ?_
    refine G_iload_n dX11_fresh_72 rfl ?_
    refine G_iadd dX11_fresh_73 ?_
    refine G_iconst (v := (0 : Int32)) dX11_fresh_74 (by decide) ?_
    refine G_aload_n dX11_fresh_75 rfl ?_
    refine G_getR fl_X11_stockTold w_1409 dX11_fresh_76 c3 ?_
    obtain ⟨a5, ea5, hw⟩ := wp_rq hw
    refine G.sure ea5 ?_
    refine G_iconst (v := (5 : Int32)) dX11_fresh_79 (by decide) ?_
    refine G_iload_n dX11_fresh_80 rfl ?_
    refine G_imul dX11_fresh_81 ?_
    refine G_iload_n dX11_fresh_82 rfl ?_
    refine G_iadd dX11_fresh_83 ?_
    obtain ⟨c6, hw⟩ := wp_ck hw
    obtain ⟨c7, hw⟩ := wp_ck hw
    refine G_iaload dX11_fresh_84 c6 c7 ?_
    refine G_mmax w_1392 w_639 w_139 w_640 dX11_fresh_85 (Nat.le_of_ble_eq_true rfl) (Nat.le_of_ble_eq_true rfl) (Nat.le_of_ble_eq_true rfl) (Nat.le_of_ble_eq_true rfl) ?_
    obtain ⟨c8, hw⟩ := wp_ck hw
    obtain ⟨c9, hw⟩ := wp_ck hw
    refine G_iastore dX11_fresh_88 c8 c9 ?_
    refine G.nmh fun h10 eh10 => ?_
    have hw := wp_bd hw h10 eh10
    obtain ⟨v11, ev11⟩ : ∃ z : Int32, z = l2 + (1 : Int32) := ⟨_, rfl⟩
    have hw := wp_bd hw v11 ev11
    refine G_iinc (v := v11) (lv' := [some (.ref l0), some (.int l1), some (.int v11)]) dX11_fresh_89 rfl (by rw [ev11]; rfl) (Nat.le_of_ble_eq_true rfl) rfl ?_
    refine G_goto (tgt := 57) dX11_fresh_92 rfl ?_
    refine G.less [some (.ref l0), some (.int l1), some (.int v11)] ⟨rfl, ⟨rfl, ⟨rfl, trivial⟩⟩⟩ ?_
    exact hK_57 _ _ _ h10 Q hw
theorem f_X11_fresh_57_ok {Γ : GX} (hs : SF Γ) {N : Nat} {K_45 : Nat → Int32 → PH → Option (Unit × PH)} (hK_45 : ∀ (l0 : Nat) (l1 : Int32) (h : PH) (Q : Unit → PH → Prop), wp (K_45 l0 l1 h) Q → G Γ yX11_fresh cX11_fresh 3 none (2, 0, 0) 45 [some (.ref l0), some (.int l1), none] [] h (0, 0) (q_u Q)) : ∀ (n : Nat) (l0 : Nat) (l1 : Int32) (l2 : Int32) (h : PH) (Q : Unit → PH → Prop), wp (f_X11_fresh_57 N K_45 n l0 l1 l2 h) Q → G Γ yX11_fresh cX11_fresh 3 none (2, 0, 0) 57 [some (.ref l0), some (.int l1), some (.int l2)] [] h (0, 0) (q_u Q)
  | 0, _, _, _, _, Q, hw => (wp_no hw).elim
  | n + 1, l0, l1, l2, h, Q, hw => f_X11_fresh_57_bok (N := N) hs hK_45 (f_X11_fresh_57_ok (N := N) hs hK_45 n) l0 l1 l2 h Q hw
set_option maxHeartbeats 4000000 in
set_option maxRecDepth 100000 in
theorem f_X11_fresh_45_bok {Γ : GX} (hs : SF Γ) {N : Nat} {K_45 : Nat → Int32 → PH → Option (Unit × PH)} (hK_45 : ∀ (l0 : Nat) (l1 : Int32) (h : PH) (Q : Unit → PH → Prop), wp (K_45 l0 l1 h) Q → G Γ yX11_fresh cX11_fresh 3 none (2, 0, 0) 45 [some (.ref l0), some (.int l1), none] [] h (0, 0) (q_u Q)) (l0 : Nat) (l1 : Int32) (h : PH) (Q : Unit → PH → Prop) (hw : wp (f_X11_fresh_45_b N K_45 l0 l1 h) Q) : G Γ yX11_fresh cX11_fresh 3 none (2, 0, 0) 45 [some (.ref l0), some (.int l1), none] [] h (0, 0) (q_u Q) := by
  unfold f_X11_fresh_45_b at hw
  refine G_iload_n dX11_fresh_45 rfl ?_
  refine G_aload_n dX11_fresh_46 rfl ?_
  obtain ⟨c1, hw⟩ := wp_ck hw
  refine G_getR fl_X11_valley w_1403 dX11_fresh_47 c1 ?_
  obtain ⟨a2, ea2, hw⟩ := wp_rq hw
  refine G.sure ea2 ?_
  refine G_iconst (v := (2 : Int32)) dX11_fresh_50 (by decide) ?_
  obtain ⟨c3, hw⟩ := wp_ck hw
  obtain ⟨c4, hw⟩ := wp_ck hw
  refine G_ialoadK (k := 2) dX11_fresh_51 c3 (by decide) rfl c4 ?_
  have hw := wp_if hw
  refine G_icmp_ge (tgt := 101) dX11_fresh_52 rfl (fun c5 => ?_) (fun c5 => ?_)
  · have hw := hw.1 c5
    exact G_vreturn rfl dX11_fresh_101 ⟨rfl, wp_ret hw⟩
  · have hw := hw.2 c5
    refine G_iconst (v := (0 : Int32)) dX11_fresh_55 (by decide) ?_
    refine G_istore_n (lv' := [some (.ref l0), some (.int l1), some (.int (0 : Int32))]) dX11_fresh_56 (Nat.le_of_ble_eq_true rfl) rfl ?_
    refine G.less [some (.ref l0), some (.int l1), some (.int (0 : Int32))] ⟨rfl, ⟨rfl, ⟨rfl, trivial⟩⟩⟩ ?_
    exact f_X11_fresh_57_ok hs hK_45 N _ _ _ h Q hw
theorem f_X11_fresh_45_ok {Γ : GX} (hs : SF Γ) {N : Nat} : ∀ (n : Nat) (l0 : Nat) (l1 : Int32) (h : PH) (Q : Unit → PH → Prop), wp (f_X11_fresh_45 N n l0 l1 h) Q → G Γ yX11_fresh cX11_fresh 3 none (2, 0, 0) 45 [some (.ref l0), some (.int l1), none] [] h (0, 0) (q_u Q)
  | 0, _, _, _, Q, hw => (wp_no hw).elim
  | n + 1, l0, l1, h, Q, hw => f_X11_fresh_45_bok (N := N) hs (f_X11_fresh_45_ok (N := N) hs n) l0 l1 h Q hw
set_option maxHeartbeats 4000000 in
set_option maxRecDepth 100000 in
theorem f_X11_fresh_23_bok {Γ : GX} (hs : SF Γ) {N : Nat} {K_23 : Nat → Int32 → PH → Option (Unit × PH)} (hK_23 : ∀ (l0 : Nat) (l1 : Int32) (h : PH) (Q : Unit → PH → Prop), wp (K_23 l0 l1 h) Q → G Γ yX11_fresh cX11_fresh 3 none (2, 0, 0) 23 [some (.ref l0), some (.int l1), none] [] h (0, 0) (q_u Q)) (l0 : Nat) (l1 : Int32) (h : PH) (Q : Unit → PH → Prop) (hw : wp (f_X11_fresh_23_b N K_23 l0 l1 h) Q) : G Γ yX11_fresh cX11_fresh 3 none (2, 0, 0) 23 [some (.ref l0), some (.int l1), none] [] h (0, 0) (q_u Q) := by
  unfold f_X11_fresh_23_b at hw
  refine G_iload_n dX11_fresh_23 rfl ?_
  refine G_iconst (v := (4 : Int32)) dX11_fresh_24 (by decide) ?_
  have hw := wp_if hw
  refine G_icmp_ge (tgt := 43) dX11_fresh_25 rfl (fun c1 => ?_) (fun c1 => ?_)
  · have hw := hw.1 c1
    refine G_iconst (v := (0 : Int32)) dX11_fresh_43 (by decide) ?_
    refine G_istore_n (lv' := [some (.ref l0), some (.int (0 : Int32)), none]) dX11_fresh_44 (Nat.le_of_ble_eq_true rfl) rfl ?_
    refine G.less [some (.ref l0), some (.int (0 : Int32)), none] ⟨rfl, ⟨rfl, trivial⟩⟩ ?_
    exact f_X11_fresh_45_ok hs N _ _ h Q hw
  · have hw := hw.2 c1
    refine G_aload_n dX11_fresh_28 rfl ?_
    obtain ⟨c2, hw⟩ := wp_ck hw
    refine G_getR fl_X11_s w_1442 dX11_fresh_29 c2 ?_
    obtain ⟨a3, ea3, hw⟩ := wp_rq hw
    refine G.sure ea3 ?_
    refine G_iconst (v := (1 : Int32)) dX11_fresh_32 (by decide) ?_
    refine G_iload_n dX11_fresh_33 rfl ?_
    refine G_iadd dX11_fresh_34 ?_
    refine G_iconst (v := (-1 : Int32)) dX11_fresh_35 (by decide) ?_
    obtain ⟨c4, hw⟩ := wp_ck hw
    obtain ⟨c5, hw⟩ := wp_ck hw
    refine G_iastore dX11_fresh_36 c4 c5 ?_
    refine G.nmh fun h6 eh6 => ?_
    have hw := wp_bd hw h6 eh6
    obtain ⟨v7, ev7⟩ : ∃ z : Int32, z = l1 + (1 : Int32) := ⟨_, rfl⟩
    have hw := wp_bd hw v7 ev7
    refine G_iinc (v := v7) (lv' := [some (.ref l0), some (.int v7), none]) dX11_fresh_37 rfl (by rw [ev7]; rfl) (Nat.le_of_ble_eq_true rfl) rfl ?_
    refine G_goto (tgt := 23) dX11_fresh_40 rfl ?_
    refine G.less [some (.ref l0), some (.int v7), none] ⟨rfl, ⟨rfl, trivial⟩⟩ ?_
    exact hK_23 _ _ h6 Q hw
theorem f_X11_fresh_23_ok {Γ : GX} (hs : SF Γ) {N : Nat} : ∀ (n : Nat) (l0 : Nat) (l1 : Int32) (h : PH) (Q : Unit → PH → Prop), wp (f_X11_fresh_23 N n l0 l1 h) Q → G Γ yX11_fresh cX11_fresh 3 none (2, 0, 0) 23 [some (.ref l0), some (.int l1), none] [] h (0, 0) (q_u Q)
  | 0, _, _, _, Q, hw => (wp_no hw).elim
  | n + 1, l0, l1, h, Q, hw => f_X11_fresh_23_bok (N := N) hs (f_X11_fresh_23_ok (N := N) hs n) l0 l1 h Q hw
set_option maxHeartbeats 4000000 in
set_option maxRecDepth 100000 in
theorem f_X11_fresh_2_bok {Γ : GX} (hs : SF Γ) {N : Nat} {K_2 : Nat → Int32 → PH → Option (Unit × PH)} (hK_2 : ∀ (l0 : Nat) (l1 : Int32) (h : PH) (Q : Unit → PH → Prop), wp (K_2 l0 l1 h) Q → G Γ yX11_fresh cX11_fresh 3 none (2, 0, 0) 2 [some (.ref l0), some (.int l1), none] [] h (0, 0) (q_u Q)) (l0 : Nat) (l1 : Int32) (h : PH) (Q : Unit → PH → Prop) (hw : wp (f_X11_fresh_2_b N K_2 l0 l1 h) Q) : G Γ yX11_fresh cX11_fresh 3 none (2, 0, 0) 2 [some (.ref l0), some (.int l1), none] [] h (0, 0) (q_u Q) := by
  unfold f_X11_fresh_2_b at hw
  refine G_iload_n dX11_fresh_2 rfl ?_
  refine G_bipush (v := (32 : Int32)) dX11_fresh_3 (by decide) ?_
  have hw := wp_if hw
  refine G_icmp_ge (tgt := 21) dX11_fresh_5 rfl (fun c1 => ?_) (fun c1 => ?_)
  · have hw := hw.1 c1
    refine G_iconst (v := (0 : Int32)) dX11_fresh_21 (by decide) ?_
    refine G_istore_n (lv' := [some (.ref l0), some (.int (0 : Int32)), none]) dX11_fresh_22 (Nat.le_of_ble_eq_true rfl) rfl ?_
    refine G.less [some (.ref l0), some (.int (0 : Int32)), none] ⟨rfl, ⟨rfl, trivial⟩⟩ ?_
    exact f_X11_fresh_23_ok hs N _ _ h Q hw
  · have hw := hw.2 c1
    refine G_aload_n dX11_fresh_8 rfl ?_
    obtain ⟨c2, hw⟩ := wp_ck hw
    refine G_getR fl_X11_s w_1442 dX11_fresh_9 c2 ?_
    obtain ⟨a3, ea3, hw⟩ := wp_rq hw
    refine G.sure ea3 ?_
    refine G_iload_n dX11_fresh_12 rfl ?_
    refine G_iconst (v := (0 : Int32)) dX11_fresh_13 (by decide) ?_
    obtain ⟨c4, hw⟩ := wp_ck hw
    obtain ⟨c5, hw⟩ := wp_ck hw
    refine G_iastore dX11_fresh_14 c4 c5 ?_
    refine G.nmh fun h6 eh6 => ?_
    have hw := wp_bd hw h6 eh6
    obtain ⟨v7, ev7⟩ : ∃ z : Int32, z = l1 + (1 : Int32) := ⟨_, rfl⟩
    have hw := wp_bd hw v7 ev7
    refine G_iinc (v := v7) (lv' := [some (.ref l0), some (.int v7), none]) dX11_fresh_15 rfl (by rw [ev7]; rfl) (Nat.le_of_ble_eq_true rfl) rfl ?_
    refine G_goto (tgt := 2) dX11_fresh_18 rfl ?_
    refine G.less [some (.ref l0), some (.int v7), none] ⟨rfl, ⟨rfl, trivial⟩⟩ ?_
    exact hK_2 _ _ h6 Q hw
theorem f_X11_fresh_2_ok {Γ : GX} (hs : SF Γ) {N : Nat} : ∀ (n : Nat) (l0 : Nat) (l1 : Int32) (h : PH) (Q : Unit → PH → Prop), wp (f_X11_fresh_2 N n l0 l1 h) Q → G Γ yX11_fresh cX11_fresh 3 none (2, 0, 0) 2 [some (.ref l0), some (.int l1), none] [] h (0, 0) (q_u Q)
  | 0, _, _, _, Q, hw => (wp_no hw).elim
  | n + 1, l0, l1, h, Q, hw => f_X11_fresh_2_bok (N := N) hs (f_X11_fresh_2_ok (N := N) hs n) l0 l1 h Q hw
set_option maxHeartbeats 4000000 in
set_option maxRecDepth 100000 in
theorem s_X11_fresh {Γ : GX} (hs : SF Γ) {N : Nat} (l0 : Nat) (h : PH) (Q : Unit → PH → Prop) (hw : wp (f_X11_fresh N l0 h) Q) : Spec Γ yX11_fresh cX11_fresh 3 none (2, 0, 0) [.ref l0] h (q_u Q) := by
  refine Spec.of (by decide) (Nat.le_of_ble_eq_true rfl) [some (.ref l0), none, none] rfl ?_
  unfold f_X11_fresh at hw
  refine G_iconst (v := (0 : Int32)) dX11_fresh_0 (by decide) ?_
  refine G_istore_n (lv' := [some (.ref l0), some (.int (0 : Int32)), none]) dX11_fresh_1 (Nat.le_of_ble_eq_true rfl) rfl ?_
  refine G.less [some (.ref l0), some (.int (0 : Int32)), none] ⟨rfl, ⟨rfl, trivial⟩⟩ ?_
  exact f_X11_fresh_2_ok hs N _ _ h Q hw
set_option maxHeartbeats 4000000 in
set_option maxRecDepth 100000 in
theorem s_X11_init {Γ : GX} (hs : SF Γ) {N : Nat} (l0 : Nat) (h : PH) (Q : Unit → PH → Prop) (hw : wp (f_X11_init N l0 h) Q) : Spec Γ yX11_init cX11_init 1 none (3, 47, 6407) [.ref l0] h (q_u Q) := by
  refine Spec.of (by decide) (Nat.le_of_ble_eq_true rfl) [some (.ref l0)] rfl ?_
  unfold f_X11_init at hw
  refine G_aload_n dX11_init_0 rfl ?_
  refine G_objInit w_1387 w_160 w_161 dX11_init_1 (Nat.le_of_ble_eq_true rfl) (Nat.le_of_ble_eq_true rfl) ?_
  refine G_aload_n dX11_init_4 rfl ?_
  refine G_sipush (v := (1000 : Int32)) dX11_init_5 (by decide) ?_
  refine G_newarray12 (n := 1000) dX11_init_8 w_240 (by decide) rfl (Nat.le_of_ble_eq_true rfl) (Nat.le_of_ble_eq_true rfl) (Nat.le_of_ble_eq_true rfl) ?_
  refine G.cse (cs' := (1, 1000)) rfl ?_
  obtain ⟨a1, ea1⟩ : ∃ z : Nat, z = hz h := ⟨_, rfl⟩
  rw [← ea1]
  have hw := wp_bd hw a1 ea1
  refine G.nmh fun h2 eh2 => ?_
  have hw := wp_bd hw h2 eh2
  obtain ⟨c3, hw⟩ := wp_ck hw
  refine G_putFR (v := (some a1)) fl_X11_tape (Or.inr ⟨_, rfl⟩) w_1395 rfl rfl dX11_init_10 c3 ?_
  refine G.nmh fun h4 eh4 => ?_
  have hw := wp_bd hw h4 eh4
  refine G_aload_n dX11_init_13 rfl ?_
  refine G_bipush (v := (12 : Int32)) dX11_init_14 (by decide) ?_
  refine G_newarray12 (n := 12) dX11_init_16 w_240 (by decide) rfl (Nat.le_of_ble_eq_true rfl) (Nat.le_of_ble_eq_true rfl) (Nat.le_of_ble_eq_true rfl) ?_
  refine G.cse (cs' := (2, 1012)) rfl ?_
  obtain ⟨a5, ea5⟩ : ∃ z : Nat, z = hz h4 := ⟨_, rfl⟩
  rw [← ea5]
  have hw := wp_bd hw a5 ea5
  refine G.nmh fun h6 eh6 => ?_
  have hw := wp_bd hw h6 eh6
  obtain ⟨c7, hw⟩ := wp_ck hw
  refine G_putFR (v := (some a5)) fl_X11_valley (Or.inr ⟨_, rfl⟩) w_1403 rfl rfl dX11_init_18 c7 ?_
  refine G.nmh fun h8 eh8 => ?_
  have hw := wp_bd hw h8 eh8
  refine G_aload_n dX11_init_21 rfl ?_
  refine G_bipush (v := (44 : Int32)) dX11_init_22 (by decide) ?_
  refine G_newarray14 (n := 44) dX11_init_24 w_425 (by decide) rfl (Nat.le_of_ble_eq_true rfl) (Nat.le_of_ble_eq_true rfl) (Nat.le_of_ble_eq_true rfl) ?_
  refine G.cse (cs' := (3, 1056)) rfl ?_
  obtain ⟨a9, ea9⟩ : ∃ z : Nat, z = hz h8 := ⟨_, rfl⟩
  rw [← ea9]
  have hw := wp_bd hw a9 ea9
  refine G.nmh fun h10 eh10 => ?_
  have hw := wp_bd hw h10 eh10
  obtain ⟨c11, hw⟩ := wp_ck hw
  refine G_putFR (v := (some a9)) fl_X11_names (Or.inr ⟨_, rfl⟩) w_1404 rfl rfl dX11_init_26 c11 ?_
  refine G.nmh fun h12 eh12 => ?_
  have hw := wp_bd hw h12 eh12
  refine G_aload_n dX11_init_29 rfl ?_
  refine G_bipush (v := (10 : Int32)) dX11_init_30 (by decide) ?_
  refine G_newarray12 (n := 10) dX11_init_32 w_240 (by decide) rfl (Nat.le_of_ble_eq_true rfl) (Nat.le_of_ble_eq_true rfl) (Nat.le_of_ble_eq_true rfl) ?_
  refine G.cse (cs' := (4, 1066)) rfl ?_
  obtain ⟨a13, ea13⟩ : ∃ z : Nat, z = hz h12 := ⟨_, rfl⟩
  rw [← ea13]
  have hw := wp_bd hw a13 ea13
  refine G.nmh fun h14 eh14 => ?_
  have hw := wp_bd hw h14 eh14
  obtain ⟨c15, hw⟩ := wp_ck hw
  refine G_putFR (v := (some a13)) fl_X11_fuelDark (Or.inr ⟨_, rfl⟩) w_1405 rfl rfl dX11_init_34 c15 ?_
  refine G.nmh fun h16 eh16 => ?_
  have hw := wp_bd hw h16 eh16
  refine G_aload_n dX11_init_37 rfl ?_
  refine G_bipush (v := (10 : Int32)) dX11_init_38 (by decide) ?_
  refine G_newarray12 (n := 10) dX11_init_40 w_240 (by decide) rfl (Nat.le_of_ble_eq_true rfl) (Nat.le_of_ble_eq_true rfl) (Nat.le_of_ble_eq_true rfl) ?_
  refine G.cse (cs' := (5, 1076)) rfl ?_
  obtain ⟨a17, ea17⟩ : ∃ z : Nat, z = hz h16 := ⟨_, rfl⟩
  rw [← ea17]
  have hw := wp_bd hw a17 ea17
  refine G.nmh fun h18 eh18 => ?_
  have hw := wp_bd hw h18 eh18
  obtain ⟨c19, hw⟩ := wp_ck hw
  refine G_putFR (v := (some a17)) fl_X11_fuelSweet (Or.inr ⟨_, rfl⟩) w_1406 rfl rfl dX11_init_42 c19 ?_
  refine G.nmh fun h20 eh20 => ?_
  have hw := wp_bd hw h20 eh20
  refine G_aload_n dX11_init_45 rfl ?_
  refine G_bipush (v := (10 : Int32)) dX11_init_46 (by decide) ?_
  refine G_newarray12 (n := 10) dX11_init_48 w_240 (by decide) rfl (Nat.le_of_ble_eq_true rfl) (Nat.le_of_ble_eq_true rfl) (Nat.le_of_ble_eq_true rfl) ?_
  refine G.cse (cs' := (6, 1086)) rfl ?_
  obtain ⟨a21, ea21⟩ : ∃ z : Nat, z = hz h20 := ⟨_, rfl⟩
  rw [← ea21]
  have hw := wp_bd hw a21 ea21
  refine G.nmh fun h22 eh22 => ?_
  have hw := wp_bd hw h22 eh22
  obtain ⟨c23, hw⟩ := wp_ck hw
  refine G_putFR (v := (some a21)) fl_X11_fuelLong (Or.inr ⟨_, rfl⟩) w_1407 rfl rfl dX11_init_50 c23 ?_
  refine G.nmh fun h24 eh24 => ?_
  have hw := wp_bd hw h24 eh24
  refine G_aload_n dX11_init_53 rfl ?_
  refine G_bipush (v := (8 : Int32)) dX11_init_54 (by decide) ?_
  refine G_newarray12 (n := 8) dX11_init_56 w_240 (by decide) rfl (Nat.le_of_ble_eq_true rfl) (Nat.le_of_ble_eq_true rfl) (Nat.le_of_ble_eq_true rfl) ?_
  refine G.cse (cs' := (7, 1094)) rfl ?_
  obtain ⟨a25, ea25⟩ : ∃ z : Nat, z = hz h24 := ⟨_, rfl⟩
  rw [← ea25]
  have hw := wp_bd hw a25 ea25
  refine G.nmh fun h26 eh26 => ?_
  have hw := wp_bd hw h26 eh26
  obtain ⟨c27, hw⟩ := wp_ck hw
  refine G_putFR (v := (some a25)) fl_X11_houseAt (Or.inr ⟨_, rfl⟩) w_1408 rfl rfl dX11_init_58 c27 ?_
  refine G.nmh fun h28 eh28 => ?_
  have hw := wp_bd hw h28 eh28
  refine G_aload_n dX11_init_61 rfl ?_
  refine G_bipush (v := (40 : Int32)) dX11_init_62 (by decide) ?_
  refine G_newarray12 (n := 40) dX11_init_64 w_240 (by decide) rfl (Nat.le_of_ble_eq_true rfl) (Nat.le_of_ble_eq_true rfl) (Nat.le_of_ble_eq_true rfl) ?_
  refine G.cse (cs' := (8, 1134)) rfl ?_
  obtain ⟨a29, ea29⟩ : ∃ z : Nat, z = hz h28 := ⟨_, rfl⟩
  rw [← ea29]
  have hw := wp_bd hw a29 ea29
  refine G.nmh fun h30 eh30 => ?_
  have hw := wp_bd hw h30 eh30
  obtain ⟨c31, hw⟩ := wp_ck hw
  refine G_putFR (v := (some a29)) fl_X11_stockTold (Or.inr ⟨_, rfl⟩) w_1409 rfl rfl dX11_init_66 c31 ?_
  refine G.nmh fun h32 eh32 => ?_
  have hw := wp_bd hw h32 eh32
  refine G_aload_n dX11_init_69 rfl ?_
  refine G_bipush (v := (48 : Int32)) dX11_init_70 (by decide) ?_
  refine G_newarray12 (n := 48) dX11_init_72 w_240 (by decide) rfl (Nat.le_of_ble_eq_true rfl) (Nat.le_of_ble_eq_true rfl) (Nat.le_of_ble_eq_true rfl) ?_
  refine G.cse (cs' := (9, 1182)) rfl ?_
  obtain ⟨a33, ea33⟩ : ∃ z : Nat, z = hz h32 := ⟨_, rfl⟩
  rw [← ea33]
  have hw := wp_bd hw a33 ea33
  refine G.nmh fun h34 eh34 => ?_
  have hw := wp_bd hw h34 eh34
  obtain ⟨c35, hw⟩ := wp_ck hw
  refine G_putFR (v := (some a33)) fl_X11_signs (Or.inr ⟨_, rfl⟩) w_1410 rfl rfl dX11_init_74 c35 ?_
  refine G.nmh fun h36 eh36 => ?_
  have hw := wp_bd hw h36 eh36
  refine G_aload_n dX11_init_77 rfl ?_
  refine G_bipush (v := (8 : Int32)) dX11_init_78 (by decide) ?_
  refine G_newarray12 (n := 8) dX11_init_80 w_240 (by decide) rfl (Nat.le_of_ble_eq_true rfl) (Nat.le_of_ble_eq_true rfl) (Nat.le_of_ble_eq_true rfl) ?_
  refine G.cse (cs' := (10, 1190)) rfl ?_
  obtain ⟨a37, ea37⟩ : ∃ z : Nat, z = hz h36 := ⟨_, rfl⟩
  rw [← ea37]
  have hw := wp_bd hw a37 ea37
  refine G.nmh fun h38 eh38 => ?_
  have hw := wp_bd hw h38 eh38
  obtain ⟨c39, hw⟩ := wp_ck hw
  refine G_putFR (v := (some a37)) fl_X11_sight (Or.inr ⟨_, rfl⟩) w_1411 rfl rfl dX11_init_82 c39 ?_
  refine G.nmh fun h40 eh40 => ?_
  have hw := wp_bd hw h40 eh40
  refine G_aload_n dX11_init_85 rfl ?_
  refine G_bipush (v := (24 : Int32)) dX11_init_86 (by decide) ?_
  refine G_newarray12 (n := 24) dX11_init_88 w_240 (by decide) rfl (Nat.le_of_ble_eq_true rfl) (Nat.le_of_ble_eq_true rfl) (Nat.le_of_ble_eq_true rfl) ?_
  refine G.cse (cs' := (11, 1214)) rfl ?_
  obtain ⟨a41, ea41⟩ : ∃ z : Nat, z = hz h40 := ⟨_, rfl⟩
  rw [← ea41]
  have hw := wp_bd hw a41 ea41
  refine G.nmh fun h42 eh42 => ?_
  have hw := wp_bd hw h42 eh42
  obtain ⟨c43, hw⟩ := wp_ck hw
  refine G_putFR (v := (some a41)) fl_X11_wind (Or.inr ⟨_, rfl⟩) w_1412 rfl rfl dX11_init_90 c43 ?_
  refine G.nmh fun h44 eh44 => ?_
  have hw := wp_bd hw h44 eh44
  refine G_aload_n dX11_init_93 rfl ?_
  refine G_iconst (v := (4 : Int32)) dX11_init_94 (by decide) ?_
  refine G_newarray12 (n := 4) dX11_init_95 w_240 (by decide) rfl (Nat.le_of_ble_eq_true rfl) (Nat.le_of_ble_eq_true rfl) (Nat.le_of_ble_eq_true rfl) ?_
  refine G.cse (cs' := (12, 1218)) rfl ?_
  obtain ⟨a45, ea45⟩ : ∃ z : Nat, z = hz h44 := ⟨_, rfl⟩
  rw [← ea45]
  have hw := wp_bd hw a45 ea45
  refine G.nmh fun h46 eh46 => ?_
  have hw := wp_bd hw h46 eh46
  obtain ⟨c47, hw⟩ := wp_ck hw
  refine G_putFR (v := (some a45)) fl_X11_lineFrom (Or.inr ⟨_, rfl⟩) w_1413 rfl rfl dX11_init_97 c47 ?_
  refine G.nmh fun h48 eh48 => ?_
  have hw := wp_bd hw h48 eh48
  refine G_aload_n dX11_init_100 rfl ?_
  refine G_iconst (v := (4 : Int32)) dX11_init_101 (by decide) ?_
  refine G_newarray12 (n := 4) dX11_init_102 w_240 (by decide) rfl (Nat.le_of_ble_eq_true rfl) (Nat.le_of_ble_eq_true rfl) (Nat.le_of_ble_eq_true rfl) ?_
  refine G.cse (cs' := (13, 1222)) rfl ?_
  obtain ⟨a49, ea49⟩ : ∃ z : Nat, z = hz h48 := ⟨_, rfl⟩
  rw [← ea49]
  have hw := wp_bd hw a49 ea49
  refine G.nmh fun h50 eh50 => ?_
  have hw := wp_bd hw h50 eh50
  obtain ⟨c51, hw⟩ := wp_ck hw
  refine G_putFR (v := (some a49)) fl_X11_lineTo (Or.inr ⟨_, rfl⟩) w_1414 rfl rfl dX11_init_104 c51 ?_
  refine G.nmh fun h52 eh52 => ?_
  have hw := wp_bd hw h52 eh52
  refine G_aload_n dX11_init_107 rfl ?_
  refine G_sipush (v := (2000 : Int32)) dX11_init_108 (by decide) ?_
  refine G_newarray12 (n := 2000) dX11_init_111 w_240 (by decide) rfl (Nat.le_of_ble_eq_true rfl) (Nat.le_of_ble_eq_true rfl) (Nat.le_of_ble_eq_true rfl) ?_
  refine G.cse (cs' := (14, 3222)) rfl ?_
  obtain ⟨a53, ea53⟩ : ∃ z : Nat, z = hz h52 := ⟨_, rfl⟩
  rw [← ea53]
  have hw := wp_bd hw a53 ea53
  refine G.nmh fun h54 eh54 => ?_
  have hw := wp_bd hw h54 eh54
  obtain ⟨c55, hw⟩ := wp_ck hw
  refine G_putFR (v := (some a53)) fl_X11_codes (Or.inr ⟨_, rfl⟩) w_1415 rfl rfl dX11_init_113 c55 ?_
  refine G.nmh fun h56 eh56 => ?_
  have hw := wp_bd hw h56 eh56
  refine G_aload_n dX11_init_116 rfl ?_
  refine G_bipush (v := (7 : Int32)) dX11_init_117 (by decide) ?_
  refine G_newarray12 (n := 7) dX11_init_119 w_240 (by decide) rfl (Nat.le_of_ble_eq_true rfl) (Nat.le_of_ble_eq_true rfl) (Nat.le_of_ble_eq_true rfl) ?_
  refine G.cse (cs' := (15, 3229)) rfl ?_
  obtain ⟨a57, ea57⟩ : ∃ z : Nat, z = hz h56 := ⟨_, rfl⟩
  rw [← ea57]
  have hw := wp_bd hw a57 ea57
  refine G.nmh fun h58 eh58 => ?_
  have hw := wp_bd hw h58 eh58
  obtain ⟨c59, hw⟩ := wp_ck hw
  refine G_putFR (v := (some a57)) fl_X11_opened (Or.inr ⟨_, rfl⟩) w_1418 rfl rfl dX11_init_121 c59 ?_
  refine G.nmh fun h60 eh60 => ?_
  have hw := wp_bd hw h60 eh60
  refine G_aload_n dX11_init_124 rfl ?_
  refine G_bipush (v := (7 : Int32)) dX11_init_125 (by decide) ?_
  refine G_newarray13 (n := 7) dX11_init_127 w_1592 (by decide) rfl (Nat.le_of_ble_eq_true rfl) (Nat.le_of_ble_eq_true rfl) (Nat.le_of_ble_eq_true rfl) ?_
  refine G.cse (cs' := (16, 3236)) rfl ?_
  obtain ⟨a61, ea61⟩ : ∃ z : Nat, z = hz h60 := ⟨_, rfl⟩
  rw [← ea61]
  have hw := wp_bd hw a61 ea61
  refine G.nmh fun h62 eh62 => ?_
  have hw := wp_bd hw h62 eh62
  obtain ⟨c63, hw⟩ := wp_ck hw
  refine G_putFR (v := (some a61)) fl_X11_compared (Or.inr ⟨_, rfl⟩) w_1419 rfl rfl dX11_init_129 c63 ?_
  refine G.nmh fun h64 eh64 => ?_
  have hw := wp_bd hw h64 eh64
  refine G_aload_n dX11_init_132 rfl ?_
  refine G_bipush (v := (7 : Int32)) dX11_init_133 (by decide) ?_
  refine G_newarray12 (n := 7) dX11_init_135 w_240 (by decide) rfl (Nat.le_of_ble_eq_true rfl) (Nat.le_of_ble_eq_true rfl) (Nat.le_of_ble_eq_true rfl) ?_
  refine G.cse (cs' := (17, 3243)) rfl ?_
  obtain ⟨a65, ea65⟩ : ∃ z : Nat, z = hz h64 := ⟨_, rfl⟩
  rw [← ea65]
  have hw := wp_bd hw a65 ea65
  refine G.nmh fun h66 eh66 => ?_
  have hw := wp_bd hw h66 eh66
  obtain ⟨c67, hw⟩ := wp_ck hw
  refine G_putFR (v := (some a65)) fl_X11_kept (Or.inr ⟨_, rfl⟩) w_1420 rfl rfl dX11_init_137 c67 ?_
  refine G.nmh fun h68 eh68 => ?_
  have hw := wp_bd hw h68 eh68
  refine G_aload_n dX11_init_140 rfl ?_
  refine G_bipush (v := (7 : Int32)) dX11_init_141 (by decide) ?_
  refine G_newarray12 (n := 7) dX11_init_143 w_240 (by decide) rfl (Nat.le_of_ble_eq_true rfl) (Nat.le_of_ble_eq_true rfl) (Nat.le_of_ble_eq_true rfl) ?_
  refine G.cse (cs' := (18, 3250)) rfl ?_
  obtain ⟨a69, ea69⟩ : ∃ z : Nat, z = hz h68 := ⟨_, rfl⟩
  rw [← ea69]
  have hw := wp_bd hw a69 ea69
  refine G.nmh fun h70 eh70 => ?_
  have hw := wp_bd hw h70 eh70
  obtain ⟨c71, hw⟩ := wp_ck hw
  refine G_putFR (v := (some a69)) fl_X11_keptBy (Or.inr ⟨_, rfl⟩) w_1421 rfl rfl dX11_init_145 c71 ?_
  refine G.nmh fun h72 eh72 => ?_
  have hw := wp_bd hw h72 eh72
  refine G_aload_n dX11_init_148 rfl ?_
  refine G_bipush (v := (7 : Int32)) dX11_init_149 (by decide) ?_
  refine G_newarray12 (n := 7) dX11_init_151 w_240 (by decide) rfl (Nat.le_of_ble_eq_true rfl) (Nat.le_of_ble_eq_true rfl) (Nat.le_of_ble_eq_true rfl) ?_
  refine G.cse (cs' := (19, 3257)) rfl ?_
  obtain ⟨a73, ea73⟩ : ∃ z : Nat, z = hz h72 := ⟨_, rfl⟩
  rw [← ea73]
  have hw := wp_bd hw a73 ea73
  refine G.nmh fun h74 eh74 => ?_
  have hw := wp_bd hw h74 eh74
  obtain ⟨c75, hw⟩ := wp_ck hw
  refine G_putFR (v := (some a73)) fl_X11_ahead (Or.inr ⟨_, rfl⟩) w_1422 rfl rfl dX11_init_153 c75 ?_
  refine G.nmh fun h76 eh76 => ?_
  have hw := wp_bd hw h76 eh76
  refine G_aload_n dX11_init_156 rfl ?_
  refine G_bipush (v := (7 : Int32)) dX11_init_157 (by decide) ?_
  refine G_newarray12 (n := 7) dX11_init_159 w_240 (by decide) rfl (Nat.le_of_ble_eq_true rfl) (Nat.le_of_ble_eq_true rfl) (Nat.le_of_ble_eq_true rfl) ?_
  refine G.cse (cs' := (20, 3264)) rfl ?_
  obtain ⟨a77, ea77⟩ : ∃ z : Nat, z = hz h76 := ⟨_, rfl⟩
  rw [← ea77]
  have hw := wp_bd hw a77 ea77
  refine G.nmh fun h78 eh78 => ?_
  have hw := wp_bd hw h78 eh78
  obtain ⟨c79, hw⟩ := wp_ck hw
  refine G_putFR (v := (some a77)) fl_X11_against (Or.inr ⟨_, rfl⟩) w_1423 rfl rfl dX11_init_161 c79 ?_
  refine G.nmh fun h80 eh80 => ?_
  have hw := wp_bd hw h80 eh80
  refine G_aload_n dX11_init_164 rfl ?_
  refine G_bipush (v := (7 : Int32)) dX11_init_165 (by decide) ?_
  refine G_newarray12 (n := 7) dX11_init_167 w_240 (by decide) rfl (Nat.le_of_ble_eq_true rfl) (Nat.le_of_ble_eq_true rfl) (Nat.le_of_ble_eq_true rfl) ?_
  refine G.cse (cs' := (21, 3271)) rfl ?_
  obtain ⟨a81, ea81⟩ : ∃ z : Nat, z = hz h80 := ⟨_, rfl⟩
  rw [← ea81]
  have hw := wp_bd hw a81 ea81
  refine G.nmh fun h82 eh82 => ?_
  have hw := wp_bd hw h82 eh82
  obtain ⟨c83, hw⟩ := wp_ck hw
  refine G_putFR (v := (some a81)) fl_X11_sum (Or.inr ⟨_, rfl⟩) w_1424 rfl rfl dX11_init_169 c83 ?_
  refine G.nmh fun h84 eh84 => ?_
  have hw := wp_bd hw h84 eh84
  refine G_aload_n dX11_init_172 rfl ?_
  refine G_bipush (v := (7 : Int32)) dX11_init_173 (by decide) ?_
  refine G_newarray12 (n := 7) dX11_init_175 w_240 (by decide) rfl (Nat.le_of_ble_eq_true rfl) (Nat.le_of_ble_eq_true rfl) (Nat.le_of_ble_eq_true rfl) ?_
  refine G.cse (cs' := (22, 3278)) rfl ?_
  obtain ⟨a85, ea85⟩ : ∃ z : Nat, z = hz h84 := ⟨_, rfl⟩
  rw [← ea85]
  have hw := wp_bd hw a85 ea85
  refine G.nmh fun h86 eh86 => ?_
  have hw := wp_bd hw h86 eh86
  obtain ⟨c87, hw⟩ := wp_ck hw
  refine G_putFR (v := (some a85)) fl_X11_sumBy (Or.inr ⟨_, rfl⟩) w_1425 rfl rfl dX11_init_177 c87 ?_
  refine G.nmh fun h88 eh88 => ?_
  have hw := wp_bd hw h88 eh88
  refine G_aload_n dX11_init_180 rfl ?_
  refine G_bipush (v := (7 : Int32)) dX11_init_181 (by decide) ?_
  refine G_newarray12 (n := 7) dX11_init_183 w_240 (by decide) rfl (Nat.le_of_ble_eq_true rfl) (Nat.le_of_ble_eq_true rfl) (Nat.le_of_ble_eq_true rfl) ?_
  refine G.cse (cs' := (23, 3285)) rfl ?_
  obtain ⟨a89, ea89⟩ : ∃ z : Nat, z = hz h88 := ⟨_, rfl⟩
  rw [← ea89]
  have hw := wp_bd hw a89 ea89
  refine G.nmh fun h90 eh90 => ?_
  have hw := wp_bd hw h90 eh90
  obtain ⟨c91, hw⟩ := wp_ck hw
  refine G_putFR (v := (some a89)) fl_X11_term (Or.inr ⟨_, rfl⟩) w_1426 rfl rfl dX11_init_185 c91 ?_
  refine G.nmh fun h92 eh92 => ?_
  have hw := wp_bd hw h92 eh92
  refine G_aload_n dX11_init_188 rfl ?_
  refine G_bipush (v := (7 : Int32)) dX11_init_189 (by decide) ?_
  refine G_newarray12 (n := 7) dX11_init_191 w_240 (by decide) rfl (Nat.le_of_ble_eq_true rfl) (Nat.le_of_ble_eq_true rfl) (Nat.le_of_ble_eq_true rfl) ?_
  refine G.cse (cs' := (24, 3292)) rfl ?_
  obtain ⟨a93, ea93⟩ : ∃ z : Nat, z = hz h92 := ⟨_, rfl⟩
  rw [← ea93]
  have hw := wp_bd hw a93 ea93
  refine G.nmh fun h94 eh94 => ?_
  have hw := wp_bd hw h94 eh94
  obtain ⟨c95, hw⟩ := wp_ck hw
  refine G_putFR (v := (some a93)) fl_X11_termBy (Or.inr ⟨_, rfl⟩) w_1427 rfl rfl dX11_init_193 c95 ?_
  refine G.nmh fun h96 eh96 => ?_
  have hw := wp_bd hw h96 eh96
  refine G_aload_n dX11_init_196 rfl ?_
  refine G_bipush (v := (7 : Int32)) dX11_init_197 (by decide) ?_
  refine G_newarray12 (n := 7) dX11_init_199 w_240 (by decide) rfl (Nat.le_of_ble_eq_true rfl) (Nat.le_of_ble_eq_true rfl) (Nat.le_of_ble_eq_true rfl) ?_
  refine G.cse (cs' := (25, 3299)) rfl ?_
  obtain ⟨a97, ea97⟩ : ∃ z : Nat, z = hz h96 := ⟨_, rfl⟩
  rw [← ea97]
  have hw := wp_bd hw a97 ea97
  refine G.nmh fun h98 eh98 => ?_
  have hw := wp_bd hw h98 eh98
  obtain ⟨c99, hw⟩ := wp_ck hw
  refine G_putFR (v := (some a97)) fl_X11_byNot (Or.inr ⟨_, rfl⟩) w_1428 rfl rfl dX11_init_201 c99 ?_
  refine G.nmh fun h100 eh100 => ?_
  have hw := wp_bd hw h100 eh100
  refine G_aload_n dX11_init_204 rfl ?_
  refine G_bipush (v := (20 : Int32)) dX11_init_205 (by decide) ?_
  refine G_newarray12 (n := 20) dX11_init_207 w_240 (by decide) rfl (Nat.le_of_ble_eq_true rfl) (Nat.le_of_ble_eq_true rfl) (Nat.le_of_ble_eq_true rfl) ?_
  refine G.cse (cs' := (26, 3319)) rfl ?_
  obtain ⟨a101, ea101⟩ : ∃ z : Nat, z = hz h100 := ⟨_, rfl⟩
  rw [← ea101]
  have hw := wp_bd hw a101 ea101
  refine G.nmh fun h102 eh102 => ?_
  have hw := wp_bd hw h102 eh102
  obtain ⟨c103, hw⟩ := wp_ck hw
  refine G_putFR (v := (some a101)) fl_X11_valueOf (Or.inr ⟨_, rfl⟩) w_1429 rfl rfl dX11_init_209 c103 ?_
  refine G.nmh fun h104 eh104 => ?_
  have hw := wp_bd hw h104 eh104
  refine G_aload_n dX11_init_212 rfl ?_
  refine G_bipush (v := (6 : Int32)) dX11_init_213 (by decide) ?_
  refine G_newarray12 (n := 6) dX11_init_215 w_240 (by decide) rfl (Nat.le_of_ble_eq_true rfl) (Nat.le_of_ble_eq_true rfl) (Nat.le_of_ble_eq_true rfl) ?_
  refine G.cse (cs' := (27, 3325)) rfl ?_
  obtain ⟨a105, ea105⟩ : ∃ z : Nat, z = hz h104 := ⟨_, rfl⟩
  rw [← ea105]
  have hw := wp_bd hw a105 ea105
  refine G.nmh fun h106 eh106 => ?_
  have hw := wp_bd hw h106 eh106
  obtain ⟨c107, hw⟩ := wp_ck hw
  refine G_putFR (v := (some a105)) fl_X11_lines (Or.inr ⟨_, rfl⟩) w_1432 rfl rfl dX11_init_217 c107 ?_
  refine G.nmh fun h108 eh108 => ?_
  have hw := wp_bd hw h108 eh108
  refine G_aload_n dX11_init_220 rfl ?_
  refine G_sipush (v := (240 : Int32)) dX11_init_221 (by decide) ?_
  refine G_newarray12 (n := 240) dX11_init_224 w_240 (by decide) rfl (Nat.le_of_ble_eq_true rfl) (Nat.le_of_ble_eq_true rfl) (Nat.le_of_ble_eq_true rfl) ?_
  refine G.cse (cs' := (28, 3565)) rfl ?_
  obtain ⟨a109, ea109⟩ : ∃ z : Nat, z = hz h108 := ⟨_, rfl⟩
  rw [← ea109]
  have hw := wp_bd hw a109 ea109
  refine G.nmh fun h110 eh110 => ?_
  have hw := wp_bd hw h110 eh110
  obtain ⟨c111, hw⟩ := wp_ck hw
  refine G_putFR (v := (some a109)) fl_X11_lineWhat (Or.inr ⟨_, rfl⟩) w_1433 rfl rfl dX11_init_226 c111 ?_
  refine G.nmh fun h112 eh112 => ?_
  have hw := wp_bd hw h112 eh112
  refine G_aload_n dX11_init_229 rfl ?_
  refine G_sipush (v := (240 : Int32)) dX11_init_230 (by decide) ?_
  refine G_newarray12 (n := 240) dX11_init_233 w_240 (by decide) rfl (Nat.le_of_ble_eq_true rfl) (Nat.le_of_ble_eq_true rfl) (Nat.le_of_ble_eq_true rfl) ?_
  refine G.cse (cs' := (29, 3805)) rfl ?_
  obtain ⟨a113, ea113⟩ : ∃ z : Nat, z = hz h112 := ⟨_, rfl⟩
  rw [← ea113]
  have hw := wp_bd hw a113 ea113
  refine G.nmh fun h114 eh114 => ?_
  have hw := wp_bd hw h114 eh114
  obtain ⟨c115, hw⟩ := wp_ck hw
  refine G_putFR (v := (some a113)) fl_X11_lineA (Or.inr ⟨_, rfl⟩) w_1434 rfl rfl dX11_init_235 c115 ?_
  refine G.nmh fun h116 eh116 => ?_
  have hw := wp_bd hw h116 eh116
  refine G_aload_n dX11_init_238 rfl ?_
  refine G_sipush (v := (240 : Int32)) dX11_init_239 (by decide) ?_
  refine G_newarray12 (n := 240) dX11_init_242 w_240 (by decide) rfl (Nat.le_of_ble_eq_true rfl) (Nat.le_of_ble_eq_true rfl) (Nat.le_of_ble_eq_true rfl) ?_
  refine G.cse (cs' := (30, 4045)) rfl ?_
  obtain ⟨a117, ea117⟩ : ∃ z : Nat, z = hz h116 := ⟨_, rfl⟩
  rw [← ea117]
  have hw := wp_bd hw a117 ea117
  refine G.nmh fun h118 eh118 => ?_
  have hw := wp_bd hw h118 eh118
  obtain ⟨c119, hw⟩ := wp_ck hw
  refine G_putFR (v := (some a117)) fl_X11_lineB (Or.inr ⟨_, rfl⟩) w_1435 rfl rfl dX11_init_244 c119 ?_
  refine G.nmh fun h120 eh120 => ?_
  have hw := wp_bd hw h120 eh120
  refine G_aload_n dX11_init_247 rfl ?_
  refine G_sipush (v := (240 : Int32)) dX11_init_248 (by decide) ?_
  refine G_newarray12 (n := 240) dX11_init_251 w_240 (by decide) rfl (Nat.le_of_ble_eq_true rfl) (Nat.le_of_ble_eq_true rfl) (Nat.le_of_ble_eq_true rfl) ?_
  refine G.cse (cs' := (31, 4285)) rfl ?_
  obtain ⟨a121, ea121⟩ : ∃ z : Nat, z = hz h120 := ⟨_, rfl⟩
  rw [← ea121]
  have hw := wp_bd hw a121 ea121
  refine G.nmh fun h122 eh122 => ?_
  have hw := wp_bd hw h122 eh122
  obtain ⟨c123, hw⟩ := wp_ck hw
  refine G_putFR (v := (some a121)) fl_X11_lineC (Or.inr ⟨_, rfl⟩) w_1436 rfl rfl dX11_init_253 c123 ?_
  refine G.nmh fun h124 eh124 => ?_
  have hw := wp_bd hw h124 eh124
  refine G_aload_n dX11_init_256 rfl ?_
  refine G_sipush (v := (240 : Int32)) dX11_init_257 (by decide) ?_
  refine G_newarray12 (n := 240) dX11_init_260 w_240 (by decide) rfl (Nat.le_of_ble_eq_true rfl) (Nat.le_of_ble_eq_true rfl) (Nat.le_of_ble_eq_true rfl) ?_
  refine G.cse (cs' := (32, 4525)) rfl ?_
  obtain ⟨a125, ea125⟩ : ∃ z : Nat, z = hz h124 := ⟨_, rfl⟩
  rw [← ea125]
  have hw := wp_bd hw a125 ea125
  refine G.nmh fun h126 eh126 => ?_
  have hw := wp_bd hw h126 eh126
  obtain ⟨c127, hw⟩ := wp_ck hw
  refine G_putFR (v := (some a125)) fl_X11_lineN (Or.inr ⟨_, rfl⟩) w_1437 rfl rfl dX11_init_262 c127 ?_
  refine G.nmh fun h128 eh128 => ?_
  have hw := wp_bd hw h128 eh128
  refine G_aload_n dX11_init_265 rfl ?_
  refine G_iconst (v := (5 : Int32)) dX11_init_266 (by decide) ?_
  refine G_newarray12 (n := 5) dX11_init_267 w_240 (by decide) rfl (Nat.le_of_ble_eq_true rfl) (Nat.le_of_ble_eq_true rfl) (Nat.le_of_ble_eq_true rfl) ?_
  refine G.cse (cs' := (33, 4530)) rfl ?_
  obtain ⟨a129, ea129⟩ : ∃ z : Nat, z = hz h128 := ⟨_, rfl⟩
  rw [← ea129]
  have hw := wp_bd hw a129 ea129
  refine G.nmh fun h130 eh130 => ?_
  have hw := wp_bd hw h130 eh130
  obtain ⟨c131, hw⟩ := wp_ck hw
  refine G_putFR (v := (some a129)) fl_X11_seens (Or.inr ⟨_, rfl⟩) w_1438 rfl rfl dX11_init_269 c131 ?_
  refine G.nmh fun h132 eh132 => ?_
  have hw := wp_bd hw h132 eh132
  refine G_aload_n dX11_init_272 rfl ?_
  refine G_bipush (v := (40 : Int32)) dX11_init_273 (by decide) ?_
  refine G_newarray12 (n := 40) dX11_init_275 w_240 (by decide) rfl (Nat.le_of_ble_eq_true rfl) (Nat.le_of_ble_eq_true rfl) (Nat.le_of_ble_eq_true rfl) ?_
  refine G.cse (cs' := (34, 4570)) rfl ?_
  obtain ⟨a133, ea133⟩ : ∃ z : Nat, z = hz h132 := ⟨_, rfl⟩
  rw [← ea133]
  have hw := wp_bd hw a133 ea133
  refine G.nmh fun h134 eh134 => ?_
  have hw := wp_bd hw h134 eh134
  obtain ⟨c135, hw⟩ := wp_ck hw
  refine G_putFR (v := (some a133)) fl_X11_seenWho (Or.inr ⟨_, rfl⟩) w_1439 rfl rfl dX11_init_277 c135 ?_
  refine G.nmh fun h136 eh136 => ?_
  have hw := wp_bd hw h136 eh136
  refine G_aload_n dX11_init_280 rfl ?_
  refine G_bipush (v := (40 : Int32)) dX11_init_281 (by decide) ?_
  refine G_newarray12 (n := 40) dX11_init_283 w_240 (by decide) rfl (Nat.le_of_ble_eq_true rfl) (Nat.le_of_ble_eq_true rfl) (Nat.le_of_ble_eq_true rfl) ?_
  refine G.cse (cs' := (35, 4610)) rfl ?_
  obtain ⟨a137, ea137⟩ : ∃ z : Nat, z = hz h136 := ⟨_, rfl⟩
  rw [← ea137]
  have hw := wp_bd hw a137 ea137
  refine G.nmh fun h138 eh138 => ?_
  have hw := wp_bd hw h138 eh138
  obtain ⟨c139, hw⟩ := wp_ck hw
  refine G_putFR (v := (some a137)) fl_X11_seenFlue (Or.inr ⟨_, rfl⟩) w_1440 rfl rfl dX11_init_285 c139 ?_
  refine G.nmh fun h140 eh140 => ?_
  have hw := wp_bd hw h140 eh140
  refine G_aload_n dX11_init_288 rfl ?_
  refine G_bipush (v := (40 : Int32)) dX11_init_289 (by decide) ?_
  refine G_newarray12 (n := 40) dX11_init_291 w_240 (by decide) rfl (Nat.le_of_ble_eq_true rfl) (Nat.le_of_ble_eq_true rfl) (Nat.le_of_ble_eq_true rfl) ?_
  refine G.cse (cs' := (36, 4650)) rfl ?_
  obtain ⟨a141, ea141⟩ : ∃ z : Nat, z = hz h140 := ⟨_, rfl⟩
  rw [← ea141]
  have hw := wp_bd hw a141 ea141
  refine G.nmh fun h142 eh142 => ?_
  have hw := wp_bd hw h142 eh142
  obtain ⟨c143, hw⟩ := wp_ck hw
  refine G_putFR (v := (some a141)) fl_X11_seenSign (Or.inr ⟨_, rfl⟩) w_1441 rfl rfl dX11_init_293 c143 ?_
  refine G.nmh fun h144 eh144 => ?_
  have hw := wp_bd hw h144 eh144
  refine G_aload_n dX11_init_296 rfl ?_
  refine G_bipush (v := (32 : Int32)) dX11_init_297 (by decide) ?_
  refine G_newarray12 (n := 32) dX11_init_299 w_240 (by decide) rfl (Nat.le_of_ble_eq_true rfl) (Nat.le_of_ble_eq_true rfl) (Nat.le_of_ble_eq_true rfl) ?_
  refine G.cse (cs' := (37, 4682)) rfl ?_
  obtain ⟨a145, ea145⟩ : ∃ z : Nat, z = hz h144 := ⟨_, rfl⟩
  rw [← ea145]
  have hw := wp_bd hw a145 ea145
  refine G.nmh fun h146 eh146 => ?_
  have hw := wp_bd hw h146 eh146
  obtain ⟨c147, hw⟩ := wp_ck hw
  refine G_putFR (v := (some a145)) fl_X11_s (Or.inr ⟨_, rfl⟩) w_1442 rfl rfl dX11_init_301 c147 ?_
  refine G.nmh fun h148 eh148 => ?_
  have hw := wp_bd hw h148 eh148
  refine G_aload_n dX11_init_304 rfl ?_
  refine G_bipush (v := (32 : Int32)) dX11_init_305 (by decide) ?_
  refine G_newarray12 (n := 32) dX11_init_307 w_240 (by decide) rfl (Nat.le_of_ble_eq_true rfl) (Nat.le_of_ble_eq_true rfl) (Nat.le_of_ble_eq_true rfl) ?_
  refine G.cse (cs' := (38, 4714)) rfl ?_
  obtain ⟨a149, ea149⟩ : ∃ z : Nat, z = hz h148 := ⟨_, rfl⟩
  rw [← ea149]
  have hw := wp_bd hw a149 ea149
  refine G.nmh fun h150 eh150 => ?_
  have hw := wp_bd hw h150 eh150
  obtain ⟨c151, hw⟩ := wp_ck hw
  refine G_putFR (v := (some a149)) fl_X11_aside (Or.inr ⟨_, rfl⟩) w_1443 rfl rfl dX11_init_309 c151 ?_
  refine G.nmh fun h152 eh152 => ?_
  have hw := wp_bd hw h152 eh152
  refine G_aload_n dX11_init_312 rfl ?_
  refine G_sipush (v := (128 : Int32)) dX11_init_313 (by decide) ?_
  refine G_newarray12 (n := 128) dX11_init_316 w_240 (by decide) rfl (Nat.le_of_ble_eq_true rfl) (Nat.le_of_ble_eq_true rfl) (Nat.le_of_ble_eq_true rfl) ?_
  refine G.cse (cs' := (39, 4842)) rfl ?_
  obtain ⟨a153, ea153⟩ : ∃ z : Nat, z = hz h152 := ⟨_, rfl⟩
  rw [← ea153]
  have hw := wp_bd hw a153 ea153
  refine G.nmh fun h154 eh154 => ?_
  have hw := wp_bd hw h154 eh154
  obtain ⟨c155, hw⟩ := wp_ck hw
  refine G_putFR (v := (some a153)) fl_X11_marked (Or.inr ⟨_, rfl⟩) w_1444 rfl rfl dX11_init_318 c155 ?_
  refine G.nmh fun h156 eh156 => ?_
  have hw := wp_bd hw h156 eh156
  refine G_aload_n dX11_init_321 rfl ?_
  refine G_sipush (v := (512 : Int32)) dX11_init_322 (by decide) ?_
  refine G_newarray12 (n := 512) dX11_init_325 w_240 (by decide) rfl (Nat.le_of_ble_eq_true rfl) (Nat.le_of_ble_eq_true rfl) (Nat.le_of_ble_eq_true rfl) ?_
  refine G.cse (cs' := (40, 5354)) rfl ?_
  obtain ⟨a157, ea157⟩ : ∃ z : Nat, z = hz h156 := ⟨_, rfl⟩
  rw [← ea157]
  have hw := wp_bd hw a157 ea157
  refine G.nmh fun h158 eh158 => ?_
  have hw := wp_bd hw h158 eh158
  obtain ⟨c159, hw⟩ := wp_ck hw
  refine G_putFR (v := (some a157)) fl_X11_undone (Or.inr ⟨_, rfl⟩) w_1445 rfl rfl dX11_init_327 c159 ?_
  refine G.nmh fun h160 eh160 => ?_
  have hw := wp_bd hw h160 eh160
  refine G_aload_n dX11_init_330 rfl ?_
  refine G_iconst (v := (4 : Int32)) dX11_init_331 (by decide) ?_
  refine G_newarray13 (n := 4) dX11_init_332 w_1592 (by decide) rfl (Nat.le_of_ble_eq_true rfl) (Nat.le_of_ble_eq_true rfl) (Nat.le_of_ble_eq_true rfl) ?_
  refine G.cse (cs' := (41, 5358)) rfl ?_
  obtain ⟨a161, ea161⟩ : ∃ z : Nat, z = hz h160 := ⟨_, rfl⟩
  rw [← ea161]
  have hw := wp_bd hw a161 ea161
  refine G.nmh fun h162 eh162 => ?_
  have hw := wp_bd hw h162 eh162
  obtain ⟨c163, hw⟩ := wp_ck hw
  refine G_putFR (v := (some a161)) fl_X11_isLaid (Or.inr ⟨_, rfl⟩) w_1446 rfl rfl dX11_init_334 c163 ?_
  refine G.nmh fun h164 eh164 => ?_
  have hw := wp_bd hw h164 eh164
  refine G_aload_n dX11_init_337 rfl ?_
  refine G_iconst (v := (4 : Int32)) dX11_init_338 (by decide) ?_
  refine G_newarray12 (n := 4) dX11_init_339 w_240 (by decide) rfl (Nat.le_of_ble_eq_true rfl) (Nat.le_of_ble_eq_true rfl) (Nat.le_of_ble_eq_true rfl) ?_
  refine G.cse (cs' := (42, 5362)) rfl ?_
  obtain ⟨a165, ea165⟩ : ∃ z : Nat, z = hz h164 := ⟨_, rfl⟩
  rw [← ea165]
  have hw := wp_bd hw a165 ea165
  refine G.nmh fun h166 eh166 => ?_
  have hw := wp_bd hw h166 eh166
  obtain ⟨c167, hw⟩ := wp_ck hw
  refine G_putFR (v := (some a165)) fl_X11_way (Or.inr ⟨_, rfl⟩) w_1450 rfl rfl dX11_init_341 c167 ?_
  refine G.nmh fun h168 eh168 => ?_
  have hw := wp_bd hw h168 eh168
  refine G_aload_n dX11_init_344 rfl ?_
  refine G_iconst (v := (4 : Int32)) dX11_init_345 (by decide) ?_
  refine G_newarray12 (n := 4) dX11_init_346 w_240 (by decide) rfl (Nat.le_of_ble_eq_true rfl) (Nat.le_of_ble_eq_true rfl) (Nat.le_of_ble_eq_true rfl) ?_
  refine G.cse (cs' := (43, 5366)) rfl ?_
  obtain ⟨a169, ea169⟩ : ∃ z : Nat, z = hz h168 := ⟨_, rfl⟩
  rw [← ea169]
  have hw := wp_bd hw a169 ea169
  refine G.nmh fun h170 eh170 => ?_
  have hw := wp_bd hw h170 eh170
  obtain ⟨c171, hw⟩ := wp_ck hw
  refine G_putFR (v := (some a169)) fl_X11_wayKept (Or.inr ⟨_, rfl⟩) w_1451 rfl rfl dX11_init_348 c171 ?_
  refine G.nmh fun h172 eh172 => ?_
  have hw := wp_bd hw h172 eh172
  refine G_aload_n dX11_init_351 rfl ?_
  refine G_iconst (v := (4 : Int32)) dX11_init_352 (by decide) ?_
  refine G_newarray12 (n := 4) dX11_init_353 w_240 (by decide) rfl (Nat.le_of_ble_eq_true rfl) (Nat.le_of_ble_eq_true rfl) (Nat.le_of_ble_eq_true rfl) ?_
  refine G.cse (cs' := (44, 5370)) rfl ?_
  obtain ⟨a173, ea173⟩ : ∃ z : Nat, z = hz h172 := ⟨_, rfl⟩
  rw [← ea173]
  have hw := wp_bd hw a173 ea173
  refine G.nmh fun h174 eh174 => ?_
  have hw := wp_bd hw h174 eh174
  obtain ⟨c175, hw⟩ := wp_ck hw
  refine G_putFR (v := (some a173)) fl_X11_bestWay (Or.inr ⟨_, rfl⟩) w_1452 rfl rfl dX11_init_355 c175 ?_
  refine G.nmh fun h176 eh176 => ?_
  have hw := wp_bd hw h176 eh176
  refine G_aload_n dX11_init_358 rfl ?_
  refine G_bipush (v := (32 : Int32)) dX11_init_359 (by decide) ?_
  refine G_newarray12 (n := 32) dX11_init_361 w_240 (by decide) rfl (Nat.le_of_ble_eq_true rfl) (Nat.le_of_ble_eq_true rfl) (Nat.le_of_ble_eq_true rfl) ?_
  refine G.cse (cs' := (45, 5402)) rfl ?_
  obtain ⟨a177, ea177⟩ : ∃ z : Nat, z = hz h176 := ⟨_, rfl⟩
  rw [← ea177]
  have hw := wp_bd hw a177 ea177
  refine G.nmh fun h178 eh178 => ?_
  have hw := wp_bd hw h178 eh178
  obtain ⟨c179, hw⟩ := wp_ck hw
  refine G_putFR (v := (some a177)) fl_X11_spelt (Or.inr ⟨_, rfl⟩) w_1453 rfl rfl dX11_init_363 c179 ?_
  refine G.nmh fun h180 eh180 => ?_
  have hw := wp_bd hw h180 eh180
  refine G_aload_n dX11_init_366 rfl ?_
  refine G_iconst (v := (4 : Int32)) dX11_init_367 (by decide) ?_
  refine G_newarray12 (n := 4) dX11_init_368 w_240 (by decide) rfl (Nat.le_of_ble_eq_true rfl) (Nat.le_of_ble_eq_true rfl) (Nat.le_of_ble_eq_true rfl) ?_
  refine G.cse (cs' := (46, 5406)) rfl ?_
  obtain ⟨a181, ea181⟩ : ∃ z : Nat, z = hz h180 := ⟨_, rfl⟩
  rw [← ea181]
  have hw := wp_bd hw a181 ea181
  refine G.nmh fun h182 eh182 => ?_
  have hw := wp_bd hw h182 eh182
  obtain ⟨c183, hw⟩ := wp_ck hw
  refine G_putFR (v := (some a181)) fl_X11_always (Or.inr ⟨_, rfl⟩) w_1456 rfl rfl dX11_init_370 c183 ?_
  refine G.nmh fun h184 eh184 => ?_
  have hw := wp_bd hw h184 eh184
  refine G_aload_n dX11_init_373 rfl ?_
  refine G_sipush (v := (1001 : Int32)) dX11_init_374 (by decide) ?_
  refine G_newarray12 (n := 1001) dX11_init_377 w_240 (by decide) rfl (Nat.le_of_ble_eq_true rfl) (Nat.le_of_ble_eq_true rfl) (Nat.le_of_ble_eq_true rfl) ?_
  refine G.cse (cs' := (47, 6407)) rfl ?_
  obtain ⟨a185, ea185⟩ : ∃ z : Nat, z = hz h184 := ⟨_, rfl⟩
  rw [← ea185]
  have hw := wp_bd hw a185 ea185
  refine G.nmh fun h186 eh186 => ?_
  have hw := wp_bd hw h186 eh186
  obtain ⟨c187, hw⟩ := wp_ck hw
  refine G_putFR (v := (some a185)) fl_X11_alike (Or.inr ⟨_, rfl⟩) w_1457 rfl rfl dX11_init_379 c187 ?_
  refine G.nmh fun h188 eh188 => ?_
  have hw := wp_bd hw h188 eh188
  refine G_aload_n dX11_init_382 rfl ?_
  obtain ⟨c191, hw⟩ := wp_ck hw
  refine G_callV (As := []) (s_X11_fresh hs l0 h188 _ (wp_cl hw)) ca_X11_fresh w_1390 w_43 (ci := 10) rfl (by decide) w_1388 c191 (Nat.le_of_ble_eq_true rfl) (Nat.le_of_ble_eq_true rfl) rfl (Nat.le_of_ble_eq_true rfl) (Nat.le_of_ble_eq_true rfl) (Nat.le_of_ble_eq_true rfl) dX11_init_383 rfl (fun v h190 hq => ?_)
  obtain ⟨rfl, hw⟩ := hq
  refine G.cse (cs' := (47, 6407)) rfl ?_
  show GZ _ _ _ _ _ _ _ 386 _ [] _ _
  exact G_vreturn rfl dX11_init_386 ⟨rfl, wp_ret hw⟩
set_option maxHeartbeats 4000000 in
set_option maxRecDepth 100000 in
theorem f_X5_add_70_ok {Γ : GX} (hs : SF Γ) {N : Nat} {K_3 : Nat → Int64 → Int32 → PH → Option (Unit × PH)} (hK_3 : ∀ (l0 : Nat) (l1 : Int64) (l3 : Int32) (h : PH) (Q : Unit → PH → Prop), wp (K_3 l0 l1 l3 h) Q → G Γ yX5_add cX5_add 5 none (1, 0, 0) 3 [some (.ref l0), some (.long l1), none, some (.int l3), none] [] h (0, 0) (q_u Q)) (l0 : Nat) (l1 : Int64) (l3 : Int32) (h : PH) (Q : Unit → PH → Prop) (hw : wp (f_X5_add_70 N K_3 l0 l1 l3 h) Q) : G Γ yX5_add cX5_add 5 none (1, 0, 0) 70 [some (.ref l0), some (.long l1), none, some (.int l3), none] [] h (0, 0) (q_u Q) := by
  unfold f_X5_add_70 at hw
  obtain ⟨v1, ev1⟩ : ∃ z : Int32, z = l3 + (-8 : Int32) := ⟨_, rfl⟩
  have hw := wp_bd hw v1 ev1
  refine G_iinc (v := v1) (lv' := [some (.ref l0), some (.long l1), none, some (.int v1), none]) dX5_add_70 rfl (by rw [ev1]; rfl) (Nat.le_of_ble_eq_true rfl) rfl ?_
  refine G_goto (tgt := 3) dX5_add_73 rfl ?_
  refine G.less [some (.ref l0), some (.long l1), none, some (.int v1), none] ⟨rfl, ⟨rfl, ⟨rfl, trivial⟩⟩⟩ ?_
  exact hK_3 _ _ _ h Q hw
set_option maxHeartbeats 4000000 in
set_option maxRecDepth 100000 in
theorem f_X5_add_38_ok {Γ : GX} (hs : SF Γ) {N : Nat} {K_3 : Nat → Int64 → Int32 → PH → Option (Unit × PH)} (hK_3 : ∀ (l0 : Nat) (l1 : Int64) (l3 : Int32) (h : PH) (Q : Unit → PH → Prop), wp (K_3 l0 l1 l3 h) Q → G Γ yX5_add cX5_add 5 none (1, 0, 0) 3 [some (.ref l0), some (.long l1), none, some (.int l3), none] [] h (0, 0) (q_u Q)) (l0 : Nat) (l1 : Int64) (l3 : Int32) (l4 : Int32) (h : PH) (Q : Unit → PH → Prop) (hw : wp (f_X5_add_38 N K_3 l0 l1 l3 l4 h) Q) : G Γ yX5_add cX5_add 5 none (1, 0, 0) 38 [some (.ref l0), some (.long l1), none, some (.int l3), some (.int l4)] [] h (0, 0) (q_u Q) := by
  unfold f_X5_add_38 at hw
  refine G_aload_n dX5_add_38 rfl ?_
  obtain ⟨c1, hw⟩ := wp_ck hw
  refine G_getI fl_X5_length w_170 dX5_add_39 c1 ?_
  refine G_sipush (v := (1000 : Int32)) dX5_add_42 (by decide) ?_
  have hw := wp_if hw
  refine G_icmp_ge (tgt := 70) dX5_add_45 rfl (fun c2 => ?_) (fun c2 => ?_)
  · have hw := hw.1 c2
    refine G.less [some (.ref l0), some (.long l1), none, some (.int l3), none] ⟨rfl, ⟨rfl, ⟨rfl, trivial⟩⟩⟩ ?_
    exact f_X5_add_70_ok hs hK_3 _ _ _ h Q hw
  · have hw := hw.2 c2
    refine G_aload_n dX5_add_48 rfl ?_
    refine G_getR fl_X5_signs w_168 dX5_add_49 c1 ?_
    obtain ⟨a3, ea3, hw⟩ := wp_rq hw
    refine G.sure ea3 ?_
    refine G_aload_n dX5_add_52 rfl ?_
    refine G_getI fl_X5_length w_170 dX5_add_53 c1 ?_
    refine G_iload dX5_add_56 rfl ?_
    refine G_i2c dX5_add_58 ?_
    obtain ⟨c4, hw⟩ := wp_ck hw
    obtain ⟨c5, hw⟩ := wp_ck hw
    refine G_castore dX5_add_59 c4 c5 ?_
    refine G.nmh fun h6 eh6 => ?_
    have hw := wp_bd hw h6 eh6
    refine G_aload_n dX5_add_60 rfl ?_
    refine G_dup dX5_add_61 rfl ?_
    obtain ⟨c7, hw⟩ := wp_ck hw
    refine G_getI fl_X5_length w_170 dX5_add_62 c7 ?_
    refine G_iconst (v := (1 : Int32)) dX5_add_65 (by decide) ?_
    refine G_iadd dX5_add_66 ?_
    refine G_putI fl_X5_length w_170 dX5_add_67 c7 ?_
    refine G.nmh fun h8 eh8 => ?_
    have hw := wp_bd hw h8 eh8
    refine G.less [some (.ref l0), some (.long l1), none, some (.int l3), none] ⟨rfl, ⟨rfl, ⟨rfl, trivial⟩⟩⟩ ?_
    exact f_X5_add_70_ok hs hK_3 _ _ _ h8 Q hw
set_option maxHeartbeats 4000000 in
set_option maxRecDepth 100000 in
theorem f_X5_add_3_bok {Γ : GX} (hs : SF Γ) {N : Nat} {K_3 : Nat → Int64 → Int32 → PH → Option (Unit × PH)} (hK_3 : ∀ (l0 : Nat) (l1 : Int64) (l3 : Int32) (h : PH) (Q : Unit → PH → Prop), wp (K_3 l0 l1 l3 h) Q → G Γ yX5_add cX5_add 5 none (1, 0, 0) 3 [some (.ref l0), some (.long l1), none, some (.int l3), none] [] h (0, 0) (q_u Q)) (l0 : Nat) (l1 : Int64) (l3 : Int32) (h : PH) (Q : Unit → PH → Prop) (hw : wp (f_X5_add_3_b N K_3 l0 l1 l3 h) Q) : G Γ yX5_add cX5_add 5 none (1, 0, 0) 3 [some (.ref l0), some (.long l1), none, some (.int l3), none] [] h (0, 0) (q_u Q) := by
  unfold f_X5_add_3_b at hw
  refine G_iload_n dX5_add_3 rfl ?_
  have hw := wp_if hw
  refine G_if_lt (tgt := 76) dX5_add_4 rfl (fun c1 => ?_) (fun c1 => ?_)
  · have hw := hw.1 c1
    exact G_vreturn rfl dX5_add_76 ⟨rfl, wp_ret hw⟩
  · have hw := hw.2 c1
    refine G_lload_n dX5_add_7 rfl ?_
    refine G_iload_n dX5_add_8 rfl ?_
    refine G_lushr dX5_add_9 ?_
    refine G_l2i dX5_add_10 ?_
    refine G_sipush (v := (255 : Int32)) dX5_add_11 (by decide) ?_
    refine G_iand dX5_add_14 ?_
    refine G.topi fun v2 ev2 => ?_
    have hw := wp_bd hw v2 ev2
    refine G_istore (lv' := [some (.ref l0), some (.long l1), none, some (.int l3), some (.int v2)]) dX5_add_15 (Nat.le_of_ble_eq_true rfl) rfl ?_
    refine G_iload dX5_add_17 rfl ?_
    refine G_bipush (v := (10 : Int32)) dX5_add_19 (by decide) ?_
    have hw := wp_if hw
    refine G_icmp_eq (tgt := 38) dX5_add_21 rfl (fun c3 => ?_) (fun c3 => ?_)
    · have hw := hw.1 c3
      refine G.less [some (.ref l0), some (.long l1), none, some (.int l3), some (.int v2)] ⟨rfl, ⟨rfl, ⟨rfl, ⟨rfl, trivial⟩⟩⟩⟩ ?_
      exact f_X5_add_38_ok hs hK_3 _ _ _ _ h Q hw
    · have hw := hw.2 c3
      refine G_iload dX5_add_24 rfl ?_
      refine G_bipush (v := (32 : Int32)) dX5_add_26 (by decide) ?_
      have hw := wp_if hw
      refine G_icmp_lt (tgt := 70) dX5_add_28 rfl (fun c4 => ?_) (fun c4 => ?_)
      · have hw := hw.1 c4
        refine G.less [some (.ref l0), some (.long l1), none, some (.int l3), none] ⟨rfl, ⟨rfl, ⟨rfl, trivial⟩⟩⟩ ?_
        exact f_X5_add_70_ok hs hK_3 _ _ _ h Q hw
      · have hw := hw.2 c4
        refine G_iload dX5_add_31 rfl ?_
        refine G_bipush (v := (126 : Int32)) dX5_add_33 (by decide) ?_
        have hw := wp_if hw
        refine G_icmp_gt (tgt := 70) dX5_add_35 rfl (fun c5 => ?_) (fun c5 => ?_)
        · have hw := hw.1 c5
          refine G.less [some (.ref l0), some (.long l1), none, some (.int l3), none] ⟨rfl, ⟨rfl, ⟨rfl, trivial⟩⟩⟩ ?_
          exact f_X5_add_70_ok hs hK_3 _ _ _ h Q hw
        · have hw := hw.2 c5
          refine G.less [some (.ref l0), some (.long l1), none, some (.int l3), some (.int v2)] ⟨rfl, ⟨rfl, ⟨rfl, ⟨rfl, trivial⟩⟩⟩⟩ ?_
          exact f_X5_add_38_ok hs hK_3 _ _ _ _ h Q hw
theorem f_X5_add_3_ok {Γ : GX} (hs : SF Γ) {N : Nat} : ∀ (n : Nat) (l0 : Nat) (l1 : Int64) (l3 : Int32) (h : PH) (Q : Unit → PH → Prop), wp (f_X5_add_3 N n l0 l1 l3 h) Q → G Γ yX5_add cX5_add 5 none (1, 0, 0) 3 [some (.ref l0), some (.long l1), none, some (.int l3), none] [] h (0, 0) (q_u Q)
  | 0, _, _, _, _, Q, hw => (wp_no hw).elim
  | n + 1, l0, l1, l3, h, Q, hw => f_X5_add_3_bok (N := N) hs (f_X5_add_3_ok (N := N) hs n) l0 l1 l3 h Q hw
set_option maxHeartbeats 4000000 in
set_option maxRecDepth 100000 in
theorem s_X5_add {Γ : GX} (hs : SF Γ) {N : Nat} (l0 : Nat) (l1 : Int64) (h : PH) (Q : Unit → PH → Prop) (hw : wp (f_X5_add N l0 l1 h) Q) : Spec Γ yX5_add cX5_add 5 none (1, 0, 0) [.ref l0, .long l1] h (q_u Q) := by
  refine Spec.of (by decide) (Nat.le_of_ble_eq_true rfl) [some (.ref l0), some (.long l1), none, none, none] rfl ?_
  unfold f_X5_add at hw
  refine G_bipush (v := (56 : Int32)) dX5_add_0 (by decide) ?_
  refine G_istore_n (lv' := [some (.ref l0), some (.long l1), none, some (.int (56 : Int32)), none]) dX5_add_2 (Nat.le_of_ble_eq_true rfl) rfl ?_
  refine G.less [some (.ref l0), some (.long l1), none, some (.int (56 : Int32)), none] ⟨rfl, ⟨rfl, ⟨rfl, trivial⟩⟩⟩ ?_
  exact f_X5_add_3_ok hs N _ _ _ h Q hw
set_option maxHeartbeats 4000000 in
set_option maxRecDepth 100000 in
theorem s_X10_feed {Γ : GX} (hs : SF Γ) {N : Nat} (l0 : Nat) (l1 : Int64) (l3 : Int64) (l5 : Int64) (h : PH) (Q : Int32 → PH → Prop) (hw : wp (f_X10_feed N l0 l1 l3 l5 h) Q) : Spec Γ yX10_feed cX10_feed 7 (some .int) (2, 0, 0) [.ref l0, .long l1, .long l3, .long l5] h (q_i Q) := by
  refine Spec.of (by decide) (Nat.le_of_ble_eq_true rfl) [some (.ref l0), some (.long l1), none, some (.long l3), none, some (.long l5), none] rfl ?_
  unfold f_X10_feed at hw
  refine G_aload_n dX10_feed_0 rfl ?_
  obtain ⟨c1, hw⟩ := wp_ck hw
  refine G_getR fl_X10_tape w_497 dX10_feed_1 c1 ?_
  obtain ⟨a2, ea2, hw⟩ := wp_rq hw
  refine G.sure ea2 ?_
  refine G_lload_n dX10_feed_4 rfl ?_
  obtain ⟨c5, hw⟩ := wp_ck hw
  refine G_callV (As := [.long l1]) (s_X5_add hs a2 l1 h _ (wp_cl hw)) ca_X5_add w_548 w_549 (ci := 5) rfl (by decide) w_547 c5 (Nat.le_of_ble_eq_true rfl) (Nat.le_of_ble_eq_true rfl) rfl (Nat.le_of_ble_eq_true rfl) (Nat.le_of_ble_eq_true rfl) (Nat.le_of_ble_eq_true rfl) dX10_feed_5 rfl (fun v h4 hq => ?_)
  obtain ⟨rfl, hw⟩ := hq
  refine G.cse (cs' := (0, 0)) rfl ?_
  show GZ _ _ _ _ _ _ _ 8 _ [] _ _
  refine G_aload_n dX10_feed_8 rfl ?_
  obtain ⟨c6, hw⟩ := wp_ck hw
  refine G_getR fl_X10_tape w_497 dX10_feed_9 c6 ?_
  obtain ⟨a7, ea7, hw⟩ := wp_rq hw
  refine G.sure ea7 ?_
  refine G_lload_n dX10_feed_12 rfl ?_
  obtain ⟨c10, hw⟩ := wp_ck hw
  refine G_callV (As := [.long l3]) (s_X5_add hs a7 l3 h4 _ (wp_cl hw)) ca_X5_add w_548 w_549 (ci := 5) rfl (by decide) w_547 c10 (Nat.le_of_ble_eq_true rfl) (Nat.le_of_ble_eq_true rfl) rfl (Nat.le_of_ble_eq_true rfl) (Nat.le_of_ble_eq_true rfl) (Nat.le_of_ble_eq_true rfl) dX10_feed_13 rfl (fun v h9 hq => ?_)
  obtain ⟨rfl, hw⟩ := hq
  refine G.cse (cs' := (0, 0)) rfl ?_
  show GZ _ _ _ _ _ _ _ 16 _ [] _ _
  refine G_aload_n dX10_feed_16 rfl ?_
  obtain ⟨c11, hw⟩ := wp_ck hw
  refine G_getR fl_X10_tape w_497 dX10_feed_17 c11 ?_
  obtain ⟨a12, ea12, hw⟩ := wp_rq hw
  refine G.sure ea12 ?_
  refine G_lload dX10_feed_20 rfl ?_
  obtain ⟨c15, hw⟩ := wp_ck hw
  refine G_callV (As := [.long l5]) (s_X5_add hs a12 l5 h9 _ (wp_cl hw)) ca_X5_add w_548 w_549 (ci := 5) rfl (by decide) w_547 c15 (Nat.le_of_ble_eq_true rfl) (Nat.le_of_ble_eq_true rfl) rfl (Nat.le_of_ble_eq_true rfl) (Nat.le_of_ble_eq_true rfl) (Nat.le_of_ble_eq_true rfl) dX10_feed_22 rfl (fun v h14 hq => ?_)
  obtain ⟨rfl, hw⟩ := hq
  refine G.cse (cs' := (0, 0)) rfl ?_
  show GZ _ _ _ _ _ _ _ 25 _ [] _ _
  refine G_aload_n dX10_feed_25 rfl ?_
  obtain ⟨c16, hw⟩ := wp_ck hw
  refine G_getR fl_X10_tape w_497 dX10_feed_26 c16 ?_
  obtain ⟨a17, ea17, hw⟩ := wp_rq hw
  refine G.sure ea17 ?_
  obtain ⟨c18, hw⟩ := wp_ck hw
  refine G_getNI fl_X5_length w_169 dX10_feed_29 c18 ?_
  exact G_ireturn rfl dX10_feed_32 ⟨_, rfl, wp_ret hw⟩
set_option maxHeartbeats 4000000 in
set_option maxRecDepth 100000 in
theorem s_X7_init {Γ : GX} (hs : SF Γ) {N : Nat} (l0 : Nat) (l1 : Nat) (l2 : Nat) (h : PH) (Q : Unit → PH → Prop) (hw : wp (f_X7_init N l0 l1 l2 h) Q) : Spec Γ yX7_init cX7_init 3 none (2, 0, 0) [.ref l0, .ref l1, .ref l2] h (q_u Q) := by
  refine Spec.of (by decide) (Nat.le_of_ble_eq_true rfl) [some (.ref l0), some (.ref l1), some (.ref l2)] rfl ?_
  unfold f_X7_init at hw
  refine G_aload_n dX7_init_0 rfl ?_
  refine G_objInit w_560 w_160 w_161 dX7_init_1 (Nat.le_of_ble_eq_true rfl) (Nat.le_of_ble_eq_true rfl) ?_
  refine G_aload_n dX7_init_4 rfl ?_
  refine G_aload_n dX7_init_5 rfl ?_
  obtain ⟨c1, hw⟩ := wp_ck hw
  refine G_putFR (v := (some l1)) fl_X7_tape (Or.inl ⟨_, rfl⟩) w_561 rfl rfl dX7_init_6 c1 ?_
  refine G.nmh fun h2 eh2 => ?_
  have hw := wp_bd hw h2 eh2
  refine G_aload_n dX7_init_9 rfl ?_
  refine G_aload_n dX7_init_10 rfl ?_
  obtain ⟨c3, hw⟩ := wp_ck hw
  refine G_putFR (v := (some l2)) fl_X7_valley (Or.inl ⟨_, rfl⟩) w_562 rfl rfl dX7_init_11 c3 ?_
  refine G.nmh fun h4 eh4 => ?_
  have hw := wp_bd hw h4 eh4
  exact G_vreturn rfl dX7_init_14 ⟨rfl, wp_ret hw⟩
set_option maxHeartbeats 4000000 in
set_option maxRecDepth 100000 in
theorem s_X1_clear {Γ : GX} (hs : SF Γ) {N : Nat} (l0 : Nat) (h : PH) (Q : Unit → PH → Prop) (hw : wp (f_X1_clear N l0 h) Q) : Spec Γ yX1_clear cX1_clear 1 none (1, 0, 0) [.ref l0] h (q_u Q) := by
  refine Spec.of (by decide) (Nat.le_of_ble_eq_true rfl) [some (.ref l0)] rfl ?_
  unfold f_X1_clear at hw
  refine G_aload_n dX1_clear_0 rfl ?_
  refine G_iconst (v := (0 : Int32)) dX1_clear_1 (by decide) ?_
  obtain ⟨c1, hw⟩ := wp_ck hw
  refine G_putI fl_X1_length w_415 dX1_clear_2 c1 ?_
  refine G.nmh fun h2 eh2 => ?_
  have hw := wp_bd hw h2 eh2
  exact G_vreturn rfl dX1_clear_5 ⟨rfl, wp_ret hw⟩
set_option maxHeartbeats 4000000 in
set_option maxRecDepth 100000 in
theorem s_X6_clear {Γ : GX} (hs : SF Γ) {N : Nat} (l0 : Nat) (h : PH) (Q : Unit → PH → Prop) (hw : wp (f_X6_clear N l0 h) Q) : Spec Γ yX6_clear cX6_clear 1 none (2, 0, 0) [.ref l0] h (q_u Q) := by
  refine Spec.of (by decide) (Nat.le_of_ble_eq_true rfl) [some (.ref l0)] rfl ?_
  unfold f_X6_clear at hw
  refine G_aload_n dX6_clear_0 rfl ?_
  obtain ⟨c1, hw⟩ := wp_ck hw
  refine G_getR fl_X6_many w_426 dX6_clear_1 c1 ?_
  obtain ⟨a2, ea2, hw⟩ := wp_rq hw
  refine G.sure ea2 ?_
  refine G_iconst (v := (0 : Int32)) dX6_clear_4 (by decide) ?_
  refine G_callS (As := [.ref a2, .int (0 : Int32)]) (s_J7_fill_53178 hs a2 (0 : Int32) h _ (wp_cl hw)) ca_J7_fill_53178 w_214 w_576 (Nat.le_of_ble_eq_true rfl) (Nat.le_of_ble_eq_true rfl) rfl (Nat.le_of_ble_eq_true rfl) (Nat.le_of_ble_eq_true rfl) (Nat.le_of_ble_eq_true rfl) dX6_clear_5 rfl (fun v h4 hq => ?_)
  obtain ⟨rfl, hw⟩ := hq
  refine G.cse (cs' := (0, 0)) rfl ?_
  show GZ _ _ _ _ _ _ _ 8 _ [] _ _
  refine G_aload_n dX6_clear_8 rfl ?_
  obtain ⟨c5, hw⟩ := wp_ck hw
  refine G_getR fl_X6_stock w_446 dX6_clear_9 c5 ?_
  obtain ⟨a6, ea6, hw⟩ := wp_rq hw
  refine G.sure ea6 ?_
  refine G_iconst (v := (0 : Int32)) dX6_clear_12 (by decide) ?_
  refine G_callS (As := [.ref a6, .int (0 : Int32)]) (s_J7_fill_53178 hs a6 (0 : Int32) h4 _ (wp_cl hw)) ca_J7_fill_53178 w_214 w_576 (Nat.le_of_ble_eq_true rfl) (Nat.le_of_ble_eq_true rfl) rfl (Nat.le_of_ble_eq_true rfl) (Nat.le_of_ble_eq_true rfl) (Nat.le_of_ble_eq_true rfl) dX6_clear_13 rfl (fun v h8 hq => ?_)
  obtain ⟨rfl, hw⟩ := hq
  refine G.cse (cs' := (0, 0)) rfl ?_
  show GZ _ _ _ _ _ _ _ 16 _ [] _ _
  refine G_aload_n dX6_clear_16 rfl ?_
  refine G_iconst (v := (0 : Int32)) dX6_clear_17 (by decide) ?_
  obtain ⟨c9, hw⟩ := wp_ck hw
  refine G_putI fl_X6_stockTold w_449 dX6_clear_18 c9 ?_
  refine G.nmh fun h10 eh10 => ?_
  have hw := wp_bd hw h10 eh10
  refine G_aload_n dX6_clear_21 rfl ?_
  obtain ⟨c11, hw⟩ := wp_ck hw
  refine G_getR fl_X6_gifts w_465 dX6_clear_22 c11 ?_
  obtain ⟨a12, ea12, hw⟩ := wp_rq hw
  refine G.sure ea12 ?_
  refine G_iconst (v := (-1 : Int32)) dX6_clear_25 (by decide) ?_
  refine G_callS (As := [.ref a12, .int (-1 : Int32)]) (s_J7_fill_53178 hs a12 (-1 : Int32) h10 _ (wp_cl hw)) ca_J7_fill_53178 w_214 w_576 (Nat.le_of_ble_eq_true rfl) (Nat.le_of_ble_eq_true rfl) rfl (Nat.le_of_ble_eq_true rfl) (Nat.le_of_ble_eq_true rfl) (Nat.le_of_ble_eq_true rfl) dX6_clear_26 rfl (fun v h14 hq => ?_)
  obtain ⟨rfl, hw⟩ := hq
  refine G.cse (cs' := (0, 0)) rfl ?_
  show GZ _ _ _ _ _ _ _ 29 _ [] _ _
  refine G_aload_n dX6_clear_29 rfl ?_
  refine G_iconst (v := (0 : Int32)) dX6_clear_30 (by decide) ?_
  obtain ⟨c15, hw⟩ := wp_ck hw
  refine G_putI fl_X6_windCount w_459 dX6_clear_31 c15 ?_
  refine G.nmh fun h16 eh16 => ?_
  have hw := wp_bd hw h16 eh16
  refine G_aload_n dX6_clear_34 rfl ?_
  obtain ⟨c17, hw⟩ := wp_ck hw
  refine G_getR fl_X6_gives w_461 dX6_clear_35 c17 ?_
  obtain ⟨a18, ea18, hw⟩ := wp_rq hw
  refine G.sure ea18 ?_
  obtain ⟨c21, hw⟩ := wp_ck hw
  refine G_callV (As := []) (s_X1_clear hs a18 h16 _ (wp_cl hw)) ca_X1_clear w_578 w_579 (ci := 1) rfl (by decide) w_577 c21 (Nat.le_of_ble_eq_true rfl) (Nat.le_of_ble_eq_true rfl) rfl (Nat.le_of_ble_eq_true rfl) (Nat.le_of_ble_eq_true rfl) (Nat.le_of_ble_eq_true rfl) dX6_clear_38 rfl (fun v h20 hq => ?_)
  obtain ⟨rfl, hw⟩ := hq
  refine G.cse (cs' := (0, 0)) rfl ?_
  show GZ _ _ _ _ _ _ _ 41 _ [] _ _
  refine G_aload_n dX6_clear_41 rfl ?_
  obtain ⟨c22, hw⟩ := wp_ck hw
  refine G_getR fl_X6_soots w_463 dX6_clear_42 c22 ?_
  obtain ⟨a23, ea23, hw⟩ := wp_rq hw
  refine G.sure ea23 ?_
  obtain ⟨c26, hw⟩ := wp_ck hw
  refine G_callV (As := []) (s_X1_clear hs a23 h20 _ (wp_cl hw)) ca_X1_clear w_578 w_579 (ci := 1) rfl (by decide) w_577 c26 (Nat.le_of_ble_eq_true rfl) (Nat.le_of_ble_eq_true rfl) rfl (Nat.le_of_ble_eq_true rfl) (Nat.le_of_ble_eq_true rfl) (Nat.le_of_ble_eq_true rfl) dX6_clear_45 rfl (fun v h25 hq => ?_)
  obtain ⟨rfl, hw⟩ := hq
  refine G.cse (cs' := (0, 0)) rfl ?_
  show GZ _ _ _ _ _ _ _ 48 _ [] _ _
  exact G_vreturn rfl dX6_clear_48 ⟨rfl, wp_ret hw⟩
set_option maxHeartbeats 4000000 in
set_option maxRecDepth 100000 in
theorem s_X5_isLetter {Γ : GX} (hs : SF Γ) {N : Nat} (l0 : Int32) (h : PH) (Q : Int32 → PH → Prop) (hw : wp (f_X5_isLetter N l0 h) Q) : Spec Γ yX5_isLetter cX5_isLetter 1 (some .boolean) (1, 0, 0) [.int l0] h (q_i Q) := by
  refine Spec.of (by decide) (Nat.le_of_ble_eq_true rfl) [some (.int l0)] rfl ?_
  unfold f_X5_isLetter at hw
  refine G_iload_n dX5_isLetter_0 rfl ?_
  refine G_bipush (v := (97 : Int32)) dX5_isLetter_1 (by decide) ?_
  have hw := wp_if hw
  refine G_icmp_lt (tgt := 16) dX5_isLetter_3 rfl (fun c1 => ?_) (fun c1 => ?_)
  · have hw := hw.1 c1
    refine G_iconst (v := (0 : Int32)) dX5_isLetter_16 (by decide) ?_
    exact G_zreturn rfl dX5_isLetter_17 rfl ⟨_, rfl, wp_ret hw⟩
  · have hw := hw.2 c1
    refine G_iload_n dX5_isLetter_6 rfl ?_
    refine G_bipush (v := (122 : Int32)) dX5_isLetter_7 (by decide) ?_
    have hw := wp_if hw
    refine G_icmp_gt (tgt := 16) dX5_isLetter_9 rfl (fun c2 => ?_) (fun c2 => ?_)
    · have hw := hw.1 c2
      refine G_iconst (v := (0 : Int32)) dX5_isLetter_16 (by decide) ?_
      exact G_zreturn rfl dX5_isLetter_17 rfl ⟨_, rfl, wp_ret hw⟩
    · have hw := hw.2 c2
      refine G_iconst (v := (1 : Int32)) dX5_isLetter_12 (by decide) ?_
      refine G_goto (tgt := 17) dX5_isLetter_13 rfl ?_
      exact G_zreturn rfl dX5_isLetter_17 rfl ⟨_, rfl, wp_ret hw⟩
set_option maxHeartbeats 4000000 in
set_option maxRecDepth 100000 in
theorem f_X9_withCode_2_bok {Γ : GX} (hs : SF Γ) {N : Nat} {K_2 : Int64 → Int32 → PH → Option (Option Nat × PH)} (hK_2 : ∀ (l0 : Int64) (l2 : Int32) (h : PH) (Q : Option Nat → PH → Prop), wp (K_2 l0 l2 h) Q → G Γ yX9_withCode cX9_withCode 3 (some (.object "OneSmoke$Word")) (1, 0, 0) 2 [some (.long l0), none, some (.int l2)] [] h (0, 0) (q_r Q)) (l0 : Int64) (l2 : Int32) (h : PH) (Q : Option Nat → PH → Prop) (hw : wp (f_X9_withCode_2_b N K_2 l0 l2 h) Q) : G Γ yX9_withCode cX9_withCode 3 (some (.object "OneSmoke$Word")) (1, 0, 0) 2 [some (.long l0), none, some (.int l2)] [] h (0, 0) (q_r Q) := by
  unfold f_X9_withCode_2_b at hw
  refine G_iload_n dX9_withCode_2 rfl ?_
  refine G_getsR (k := 27) hs.2.1 w_600 dX9_withCode_3 ?_
  refine G_wlen hs dX9_withCode_6 ?_
  have hw := wp_if hw
  refine G_icmp_ge (tgt := 35) dX9_withCode_7 rfl (fun c1 => ?_) (fun c1 => ?_)
  · have hw := hw.1 c1
    refine G_null dX9_withCode_35 ?_
    exact G_areturn (x := none) rfl (Or.inl ⟨_, rfl⟩) dX9_withCode_36 ⟨_, rfl, wp_ret hw⟩
  · have hw := hw.2 c1
    refine G_getsR (k := 27) hs.2.1 w_600 dX9_withCode_10 ?_
    refine G_iload_n dX9_withCode_13 rfl ?_
    obtain ⟨c2, hw⟩ := wp_ck hw
    refine G_wall hs dX9_withCode_14 c2 ?_
    obtain ⟨i3, ei3, hw⟩ := wp_rq hw
    refine G_wcode hs ei3 w_2096 dX9_withCode_15 ?_
    refine G_lload_n dX9_withCode_18 rfl ?_
    refine G_lcmp dX9_withCode_19 ?_
    have hw := wp_if hw
    refine G_if_ne (tgt := 29) dX9_withCode_20 rfl (fun c4 => ?_) (fun c4 => ?_)
    · have hw := hw.2 c4
      obtain ⟨v5, ev5⟩ : ∃ z : Int32, z = l2 + (1 : Int32) := ⟨_, rfl⟩
      have hw := wp_bd hw v5 ev5
      refine G_iinc (v := v5) (lv' := [some (.long l0), none, some (.int v5)]) dX9_withCode_29 rfl (by rw [ev5]; rfl) (Nat.le_of_ble_eq_true rfl) rfl ?_
      refine G_goto (tgt := 2) dX9_withCode_32 rfl ?_
      refine G.less [some (.long l0), none, some (.int v5)] ⟨rfl, ⟨rfl, trivial⟩⟩ ?_
      exact hK_2 _ _ h Q hw
    · have hw := hw.1 c4
      refine G_getsR (k := 27) hs.2.1 w_600 dX9_withCode_23 ?_
      refine G_iload_n dX9_withCode_26 rfl ?_
      refine G_wall hs dX9_withCode_27 c2 ?_
      exact G_areturn (x := some (hW h (ix l2))) rfl (Or.inl ⟨_, rfl⟩) dX9_withCode_28 ⟨_, rfl, wp_ret hw⟩
theorem f_X9_withCode_2_ok {Γ : GX} (hs : SF Γ) {N : Nat} : ∀ (n : Nat) (l0 : Int64) (l2 : Int32) (h : PH) (Q : Option Nat → PH → Prop), wp (f_X9_withCode_2 N n l0 l2 h) Q → G Γ yX9_withCode cX9_withCode 3 (some (.object "OneSmoke$Word")) (1, 0, 0) 2 [some (.long l0), none, some (.int l2)] [] h (0, 0) (q_r Q)
  | 0, _, _, _, Q, hw => (wp_no hw).elim
  | n + 1, l0, l2, h, Q, hw => f_X9_withCode_2_bok (N := N) hs (f_X9_withCode_2_ok (N := N) hs n) l0 l2 h Q hw
set_option maxHeartbeats 4000000 in
set_option maxRecDepth 100000 in
theorem s_X9_withCode {Γ : GX} (hs : SF Γ) {N : Nat} (l0 : Int64) (h : PH) (Q : Option Nat → PH → Prop) (hw : wp (f_X9_withCode N l0 h) Q) : Spec Γ yX9_withCode cX9_withCode 3 (some (.object "OneSmoke$Word")) (1, 0, 0) [.long l0] h (q_r Q) := by
  refine Spec.of (by decide) (Nat.le_of_ble_eq_true rfl) [some (.long l0), none, none] rfl ?_
  unfold f_X9_withCode at hw
  refine G_iconst (v := (0 : Int32)) dX9_withCode_0 (by decide) ?_
  refine G_istore_n (lv' := [some (.long l0), none, some (.int (0 : Int32))]) dX9_withCode_1 (Nat.le_of_ble_eq_true rfl) rfl ?_
  refine G.less [some (.long l0), none, some (.int (0 : Int32))] ⟨rfl, ⟨rfl, trivial⟩⟩ ?_
  exact f_X9_withCode_2_ok hs N _ _ h Q hw
set_option maxHeartbeats 4000000 in
set_option maxRecDepth 100000 in
theorem f_X5_takeWord_72_ok {Γ : GX} (hs : SF Γ) {N : Nat} (l0 : Nat) (h : PH) (Q : Unit → PH → Prop) (hw : wp (f_X5_takeWord_72 N l0 h) Q) : G Γ yX5_takeWord cX5_takeWord 1 none (2, 0, 0) 72 [some (.ref l0)] [] h (0, 0) (q_u Q) := by
  unfold f_X5_takeWord_72 at hw
  refine G_aload_n dX5_takeWord_72 rfl ?_
  obtain ⟨c1, hw⟩ := wp_ck hw
  refine G_getI fl_X5_next w_171 dX5_takeWord_73 c1 ?_
  refine G_aload_n dX5_takeWord_76 rfl ?_
  refine G_getI fl_X5_place w_173 dX5_takeWord_77 c1 ?_
  refine G_isub dX5_takeWord_80 ?_
  refine G_bipush (v := (8 : Int32)) dX5_takeWord_81 (by decide) ?_
  have hw := wp_if hw
  refine G_icmp_le (tgt := 94) dX5_takeWord_83 rfl (fun c2 => ?_) (fun c2 => ?_)
  · have hw := hw.1 c2
    refine G_aload_n dX5_takeWord_94 rfl ?_
    refine G_iconst (v := (2 : Int32)) dX5_takeWord_95 (by decide) ?_
    refine G_putI fl_X5_kind w_172 dX5_takeWord_96 c1 ?_
    refine G.nmh fun h3 eh3 => ?_
    have hw := wp_bd hw h3 eh3
    refine G_aload_n dX5_takeWord_99 rfl ?_
    refine G_aload_n dX5_takeWord_100 rfl ?_
    obtain ⟨c4, hw⟩ := wp_ck hw
    refine G_getJ fl_X5_name w_178 dX5_takeWord_101 c4 ?_
    refine G_callS (As := [.long (hJ h3 l0 6)]) (s_X9_withCode hs (hJ h3 l0 6) h3 _ (wp_cl hw)) ca_X9_withCode w_598 w_597 (Nat.le_of_ble_eq_true rfl) (Nat.le_of_ble_eq_true rfl) rfl (Nat.le_of_ble_eq_true rfl) (Nat.le_of_ble_eq_true rfl) (Nat.le_of_ble_eq_true rfl) dX5_takeWord_104 rfl (fun v h6 hq => ?_)
    obtain ⟨r5, rfl, hw⟩ := hq
    refine G.cse (cs' := (0, 0)) rfl ?_
    show GZ _ _ _ _ _ _ _ 107 _ (va_rf r5 :: [.ref l0]) _ _
    obtain ⟨c7, hw⟩ := wp_ck hw
    refine G_putR (v := r5) fl_X5_word (Or.inl ⟨_, rfl⟩) w_179 dX5_takeWord_107 c7 ?_
    refine G.nmh fun h8 eh8 => ?_
    have hw := wp_bd hw h8 eh8
    exact G_vreturn rfl dX5_takeWord_110 ⟨rfl, wp_ret hw⟩
  · have hw := hw.2 c2
    refine G_aload_n dX5_takeWord_86 rfl ?_
    refine G_iconst (v := (0 : Int32)) dX5_takeWord_87 (by decide) ?_
    refine G_putI fl_X5_kind w_172 dX5_takeWord_88 c1 ?_
    refine G.nmh fun h9 eh9 => ?_
    have hw := wp_bd hw h9 eh9
    refine G_goto (tgt := 110) dX5_takeWord_91 rfl ?_
    exact G_vreturn rfl dX5_takeWord_110 ⟨rfl, wp_ret hw⟩
set_option maxHeartbeats 4000000 in
set_option maxRecDepth 100000 in
theorem f_X5_takeWord_5_bok {Γ : GX} (hs : SF Γ) {N : Nat} {K_5 : Nat → PH → Option (Unit × PH)} (hK_5 : ∀ (l0 : Nat) (h : PH) (Q : Unit → PH → Prop), wp (K_5 l0 h) Q → G Γ yX5_takeWord cX5_takeWord 1 none (2, 0, 0) 5 [some (.ref l0)] [] h (0, 0) (q_u Q)) (l0 : Nat) (h : PH) (Q : Unit → PH → Prop) (hw : wp (f_X5_takeWord_5_b N K_5 l0 h) Q) : G Γ yX5_takeWord cX5_takeWord 1 none (2, 0, 0) 5 [some (.ref l0)] [] h (0, 0) (q_u Q) := by
  unfold f_X5_takeWord_5_b at hw
  refine G_aload_n dX5_takeWord_5 rfl ?_
  obtain ⟨c1, hw⟩ := wp_ck hw
  refine G_getI fl_X5_next w_171 dX5_takeWord_6 c1 ?_
  refine G_aload_n dX5_takeWord_9 rfl ?_
  refine G_getI fl_X5_length w_170 dX5_takeWord_10 c1 ?_
  have hw := wp_if hw
  refine G_icmp_ge (tgt := 72) dX5_takeWord_13 rfl (fun c2 => ?_) (fun c2 => ?_)
  · have hw := hw.1 c2
    refine G.less [some (.ref l0)] ⟨rfl, trivial⟩ ?_
    exact f_X5_takeWord_72_ok hs _ h Q hw
  · have hw := hw.2 c2
    refine G_aload_n dX5_takeWord_16 rfl ?_
    refine G_getR fl_X5_signs w_168 dX5_takeWord_17 c1 ?_
    obtain ⟨a3, ea3, hw⟩ := wp_rq hw
    refine G.sure ea3 ?_
    refine G_aload_n dX5_takeWord_20 rfl ?_
    refine G_getI fl_X5_next w_171 dX5_takeWord_21 c1 ?_
    obtain ⟨c4, hw⟩ := wp_ck hw
    obtain ⟨c5, hw⟩ := wp_ck hw
    refine G_caload dX5_takeWord_24 c4 c5 ?_
    refine G_callS (As := [.int (hI h a3 (ix (hI h l0 2)))]) (s_X5_isLetter hs (hI h a3 (ix (hI h l0 2))) h _ (wp_cl hw)) ca_X5_isLetter w_590 w_589 (Nat.le_of_ble_eq_true rfl) (Nat.le_of_ble_eq_true rfl) rfl (Nat.le_of_ble_eq_true rfl) (Nat.le_of_ble_eq_true rfl) (Nat.le_of_ble_eq_true rfl) dX5_takeWord_25 rfl (fun v h7 hq => ?_)
    obtain ⟨r6, rfl, hw⟩ := hq
    refine G.cse (cs' := (0, 0)) rfl ?_
    show GZ _ _ _ _ _ _ _ 28 _ (.int r6 :: []) _ _
    have hw := wp_if hw
    refine G_if_eq (tgt := 72) dX5_takeWord_28 rfl (fun c8 => ?_) (fun c8 => ?_)
    · have hw := hw.1 c8
      refine G.less [some (.ref l0)] ⟨rfl, trivial⟩ ?_
      exact f_X5_takeWord_72_ok hs _ h7 Q hw
    · have hw := hw.2 c8
      refine G_aload_n dX5_takeWord_31 rfl ?_
      refine G_aload_n dX5_takeWord_32 rfl ?_
      obtain ⟨c9, hw⟩ := wp_ck hw
      refine G_getJ fl_X5_name w_178 dX5_takeWord_33 c9 ?_
      refine G_ldc2 (v := (32 : Int64)) dX5_takeWord_36 w_596 ?_
      refine G_lmul dX5_takeWord_39 ?_
      refine G_aload_n dX5_takeWord_40 rfl ?_
      refine G_getR fl_X5_signs w_168 dX5_takeWord_41 c9 ?_
      obtain ⟨a10, ea10, hw⟩ := wp_rq hw
      refine G.sure ea10 ?_
      refine G_aload_n dX5_takeWord_44 rfl ?_
      refine G_getI fl_X5_next w_171 dX5_takeWord_45 c9 ?_
      obtain ⟨c11, hw⟩ := wp_ck hw
      obtain ⟨c12, hw⟩ := wp_ck hw
      refine G_caload dX5_takeWord_48 c11 c12 ?_
      refine G_bipush (v := (97 : Int32)) dX5_takeWord_49 (by decide) ?_
      refine G_isub dX5_takeWord_51 ?_
      refine G_iconst (v := (1 : Int32)) dX5_takeWord_52 (by decide) ?_
      refine G_iadd dX5_takeWord_53 ?_
      refine G_i2l dX5_takeWord_54 ?_
      refine G_ladd dX5_takeWord_55 ?_
      refine G_putJ fl_X5_name w_178 dX5_takeWord_56 c9 ?_
      refine G.nmh fun h13 eh13 => ?_
      have hw := wp_bd hw h13 eh13
      refine G_aload_n dX5_takeWord_59 rfl ?_
      refine G_dup dX5_takeWord_60 rfl ?_
      obtain ⟨c14, hw⟩ := wp_ck hw
      refine G_getI fl_X5_next w_171 dX5_takeWord_61 c14 ?_
      refine G_iconst (v := (1 : Int32)) dX5_takeWord_64 (by decide) ?_
      refine G_iadd dX5_takeWord_65 ?_
      refine G_putI fl_X5_next w_171 dX5_takeWord_66 c14 ?_
      refine G.nmh fun h15 eh15 => ?_
      have hw := wp_bd hw h15 eh15
      refine G_goto (tgt := 5) dX5_takeWord_69 rfl ?_
      refine G.less [some (.ref l0)] ⟨rfl, trivial⟩ ?_
      exact hK_5 _ h15 Q hw
theorem f_X5_takeWord_5_ok {Γ : GX} (hs : SF Γ) {N : Nat} : ∀ (n : Nat) (l0 : Nat) (h : PH) (Q : Unit → PH → Prop), wp (f_X5_takeWord_5 N n l0 h) Q → G Γ yX5_takeWord cX5_takeWord 1 none (2, 0, 0) 5 [some (.ref l0)] [] h (0, 0) (q_u Q)
  | 0, _, _, Q, hw => (wp_no hw).elim
  | n + 1, l0, h, Q, hw => f_X5_takeWord_5_bok (N := N) hs (f_X5_takeWord_5_ok (N := N) hs n) l0 h Q hw
set_option maxHeartbeats 4000000 in
set_option maxRecDepth 100000 in
theorem s_X5_takeWord {Γ : GX} (hs : SF Γ) {N : Nat} (l0 : Nat) (h : PH) (Q : Unit → PH → Prop) (hw : wp (f_X5_takeWord N l0 h) Q) : Spec Γ yX5_takeWord cX5_takeWord 1 none (2, 0, 0) [.ref l0] h (q_u Q) := by
  refine Spec.of (by decide) (Nat.le_of_ble_eq_true rfl) [some (.ref l0)] rfl ?_
  unfold f_X5_takeWord at hw
  refine G_aload_n dX5_takeWord_0 rfl ?_
  refine G_lconst (v := (0 : Int64)) dX5_takeWord_1 (by decide) ?_
  obtain ⟨c1, hw⟩ := wp_ck hw
  refine G_putJ fl_X5_name w_178 dX5_takeWord_2 c1 ?_
  refine G.nmh fun h2 eh2 => ?_
  have hw := wp_bd hw h2 eh2
  refine G.less [some (.ref l0)] ⟨rfl, trivial⟩ ?_
  exact f_X5_takeWord_5_ok hs N _ h2 Q hw
set_option maxHeartbeats 4000000 in
set_option maxRecDepth 100000 in
theorem s_X5_isDigit {Γ : GX} (hs : SF Γ) {N : Nat} (l0 : Int32) (h : PH) (Q : Int32 → PH → Prop) (hw : wp (f_X5_isDigit N l0 h) Q) : Spec Γ yX5_isDigit cX5_isDigit 1 (some .boolean) (1, 0, 0) [.int l0] h (q_i Q) := by
  refine Spec.of (by decide) (Nat.le_of_ble_eq_true rfl) [some (.int l0)] rfl ?_
  unfold f_X5_isDigit at hw
  refine G_iload_n dX5_isDigit_0 rfl ?_
  refine G_bipush (v := (48 : Int32)) dX5_isDigit_1 (by decide) ?_
  have hw := wp_if hw
  refine G_icmp_lt (tgt := 16) dX5_isDigit_3 rfl (fun c1 => ?_) (fun c1 => ?_)
  · have hw := hw.1 c1
    refine G_iconst (v := (0 : Int32)) dX5_isDigit_16 (by decide) ?_
    exact G_zreturn rfl dX5_isDigit_17 rfl ⟨_, rfl, wp_ret hw⟩
  · have hw := hw.2 c1
    refine G_iload_n dX5_isDigit_6 rfl ?_
    refine G_bipush (v := (57 : Int32)) dX5_isDigit_7 (by decide) ?_
    have hw := wp_if hw
    refine G_icmp_gt (tgt := 16) dX5_isDigit_9 rfl (fun c2 => ?_) (fun c2 => ?_)
    · have hw := hw.1 c2
      refine G_iconst (v := (0 : Int32)) dX5_isDigit_16 (by decide) ?_
      exact G_zreturn rfl dX5_isDigit_17 rfl ⟨_, rfl, wp_ret hw⟩
    · have hw := hw.2 c2
      refine G_iconst (v := (1 : Int32)) dX5_isDigit_12 (by decide) ?_
      refine G_goto (tgt := 17) dX5_isDigit_13 rfl ?_
      exact G_zreturn rfl dX5_isDigit_17 rfl ⟨_, rfl, wp_ret hw⟩
set_option maxHeartbeats 4000000 in
set_option maxRecDepth 100000 in
theorem f_X5_takeNumber_87_ok {Γ : GX} (hs : SF Γ) {N : Nat} (s0 : Int32) (s1 : Nat) (h : PH) (Q : Unit → PH → Prop) (hw : wp (f_X5_takeNumber_87 N s0 s1 h) Q) : G Γ yX5_takeNumber cX5_takeNumber 1 none (2, 0, 0) 87 [none] [.int s0, .ref s1] h (0, 0) (q_u Q) := by
  unfold f_X5_takeNumber_87 at hw
  obtain ⟨c1, hw⟩ := wp_ck hw
  refine G_putI fl_X5_kind w_172 dX5_takeNumber_87 c1 ?_
  refine G.nmh fun h2 eh2 => ?_
  have hw := wp_bd hw h2 eh2
  exact G_vreturn rfl dX5_takeNumber_90 ⟨rfl, wp_ret hw⟩
set_option maxHeartbeats 4000000 in
set_option maxRecDepth 100000 in
theorem f_X5_takeNumber_68_ok {Γ : GX} (hs : SF Γ) {N : Nat} (l0 : Nat) (h : PH) (Q : Unit → PH → Prop) (hw : wp (f_X5_takeNumber_68 N l0 h) Q) : G Γ yX5_takeNumber cX5_takeNumber 1 none (2, 0, 0) 68 [some (.ref l0)] [] h (0, 0) (q_u Q) := by
  unfold f_X5_takeNumber_68 at hw
  refine G_aload_n dX5_takeNumber_68 rfl ?_
  refine G_aload_n dX5_takeNumber_69 rfl ?_
  obtain ⟨c1, hw⟩ := wp_ck hw
  refine G_getI fl_X5_next w_171 dX5_takeNumber_70 c1 ?_
  refine G_aload_n dX5_takeNumber_73 rfl ?_
  refine G_getI fl_X5_place w_173 dX5_takeNumber_74 c1 ?_
  refine G_isub dX5_takeNumber_77 ?_
  refine G_iconst (v := (4 : Int32)) dX5_takeNumber_78 (by decide) ?_
  have hw := wp_if hw
  refine G_icmp_le (tgt := 86) dX5_takeNumber_79 rfl (fun c2 => ?_) (fun c2 => ?_)
  · have hw := hw.1 c2
    refine G_iconst (v := (3 : Int32)) dX5_takeNumber_86 (by decide) ?_
    refine G.less [none] trivial ?_
    exact f_X5_takeNumber_87_ok hs _ _ h Q hw
  · have hw := hw.2 c2
    refine G_iconst (v := (0 : Int32)) dX5_takeNumber_82 (by decide) ?_
    refine G_goto (tgt := 87) dX5_takeNumber_83 rfl ?_
    refine G.less [none] trivial ?_
    exact f_X5_takeNumber_87_ok hs _ _ h Q hw
set_option maxHeartbeats 4000000 in
set_option maxRecDepth 100000 in
theorem f_X5_takeNumber_5_bok {Γ : GX} (hs : SF Γ) {N : Nat} {K_5 : Nat → PH → Option (Unit × PH)} (hK_5 : ∀ (l0 : Nat) (h : PH) (Q : Unit → PH → Prop), wp (K_5 l0 h) Q → G Γ yX5_takeNumber cX5_takeNumber 1 none (2, 0, 0) 5 [some (.ref l0)] [] h (0, 0) (q_u Q)) (l0 : Nat) (h : PH) (Q : Unit → PH → Prop) (hw : wp (f_X5_takeNumber_5_b N K_5 l0 h) Q) : G Γ yX5_takeNumber cX5_takeNumber 1 none (2, 0, 0) 5 [some (.ref l0)] [] h (0, 0) (q_u Q) := by
  unfold f_X5_takeNumber_5_b at hw
  refine G_aload_n dX5_takeNumber_5 rfl ?_
  obtain ⟨c1, hw⟩ := wp_ck hw
  refine G_getI fl_X5_next w_171 dX5_takeNumber_6 c1 ?_
  refine G_aload_n dX5_takeNumber_9 rfl ?_
  refine G_getI fl_X5_length w_170 dX5_takeNumber_10 c1 ?_
  have hw := wp_if hw
  refine G_icmp_ge (tgt := 68) dX5_takeNumber_13 rfl (fun c2 => ?_) (fun c2 => ?_)
  · have hw := hw.1 c2
    refine G.less [some (.ref l0)] ⟨rfl, trivial⟩ ?_
    exact f_X5_takeNumber_68_ok hs _ h Q hw
  · have hw := hw.2 c2
    refine G_aload_n dX5_takeNumber_16 rfl ?_
    refine G_getR fl_X5_signs w_168 dX5_takeNumber_17 c1 ?_
    obtain ⟨a3, ea3, hw⟩ := wp_rq hw
    refine G.sure ea3 ?_
    refine G_aload_n dX5_takeNumber_20 rfl ?_
    refine G_getI fl_X5_next w_171 dX5_takeNumber_21 c1 ?_
    obtain ⟨c4, hw⟩ := wp_ck hw
    obtain ⟨c5, hw⟩ := wp_ck hw
    refine G_caload dX5_takeNumber_24 c4 c5 ?_
    refine G_callS (As := [.int (hI h a3 (ix (hI h l0 2)))]) (s_X5_isDigit hs (hI h a3 (ix (hI h l0 2))) h _ (wp_cl hw)) ca_X5_isDigit w_603 w_602 (Nat.le_of_ble_eq_true rfl) (Nat.le_of_ble_eq_true rfl) rfl (Nat.le_of_ble_eq_true rfl) (Nat.le_of_ble_eq_true rfl) (Nat.le_of_ble_eq_true rfl) dX5_takeNumber_25 rfl (fun v h7 hq => ?_)
    obtain ⟨r6, rfl, hw⟩ := hq
    refine G.cse (cs' := (0, 0)) rfl ?_
    show GZ _ _ _ _ _ _ _ 28 _ (.int r6 :: []) _ _
    have hw := wp_if hw
    refine G_if_eq (tgt := 68) dX5_takeNumber_28 rfl (fun c8 => ?_) (fun c8 => ?_)
    · have hw := hw.1 c8
      refine G.less [some (.ref l0)] ⟨rfl, trivial⟩ ?_
      exact f_X5_takeNumber_68_ok hs _ h7 Q hw
    · have hw := hw.2 c8
      refine G_aload_n dX5_takeNumber_31 rfl ?_
      refine G_aload_n dX5_takeNumber_32 rfl ?_
      obtain ⟨c9, hw⟩ := wp_ck hw
      refine G_getI fl_X5_number w_176 dX5_takeNumber_33 c9 ?_
      refine G_bipush (v := (10 : Int32)) dX5_takeNumber_36 (by decide) ?_
      refine G_imul dX5_takeNumber_38 ?_
      refine G_aload_n dX5_takeNumber_39 rfl ?_
      refine G_getR fl_X5_signs w_168 dX5_takeNumber_40 c9 ?_
      obtain ⟨a10, ea10, hw⟩ := wp_rq hw
      refine G.sure ea10 ?_
      refine G_aload_n dX5_takeNumber_43 rfl ?_
      refine G_getI fl_X5_next w_171 dX5_takeNumber_44 c9 ?_
      obtain ⟨c11, hw⟩ := wp_ck hw
      obtain ⟨c12, hw⟩ := wp_ck hw
      refine G_caload dX5_takeNumber_47 c11 c12 ?_
      refine G_bipush (v := (48 : Int32)) dX5_takeNumber_48 (by decide) ?_
      refine G_isub dX5_takeNumber_50 ?_
      refine G_iadd dX5_takeNumber_51 ?_
      refine G_putI fl_X5_number w_176 dX5_takeNumber_52 c9 ?_
      refine G.nmh fun h13 eh13 => ?_
      have hw := wp_bd hw h13 eh13
      refine G_aload_n dX5_takeNumber_55 rfl ?_
      refine G_dup dX5_takeNumber_56 rfl ?_
      obtain ⟨c14, hw⟩ := wp_ck hw
      refine G_getI fl_X5_next w_171 dX5_takeNumber_57 c14 ?_
      refine G_iconst (v := (1 : Int32)) dX5_takeNumber_60 (by decide) ?_
      refine G_iadd dX5_takeNumber_61 ?_
      refine G_putI fl_X5_next w_171 dX5_takeNumber_62 c14 ?_
      refine G.nmh fun h15 eh15 => ?_
      have hw := wp_bd hw h15 eh15
      refine G_goto (tgt := 5) dX5_takeNumber_65 rfl ?_
      refine G.less [some (.ref l0)] ⟨rfl, trivial⟩ ?_
      exact hK_5 _ h15 Q hw
theorem f_X5_takeNumber_5_ok {Γ : GX} (hs : SF Γ) {N : Nat} : ∀ (n : Nat) (l0 : Nat) (h : PH) (Q : Unit → PH → Prop), wp (f_X5_takeNumber_5 N n l0 h) Q → G Γ yX5_takeNumber cX5_takeNumber 1 none (2, 0, 0) 5 [some (.ref l0)] [] h (0, 0) (q_u Q)
  | 0, _, _, Q, hw => (wp_no hw).elim
  | n + 1, l0, h, Q, hw => f_X5_takeNumber_5_bok (N := N) hs (f_X5_takeNumber_5_ok (N := N) hs n) l0 h Q hw
set_option maxHeartbeats 4000000 in
set_option maxRecDepth 100000 in
theorem s_X5_takeNumber {Γ : GX} (hs : SF Γ) {N : Nat} (l0 : Nat) (h : PH) (Q : Unit → PH → Prop) (hw : wp (f_X5_takeNumber N l0 h) Q) : Spec Γ yX5_takeNumber cX5_takeNumber 1 none (2, 0, 0) [.ref l0] h (q_u Q) := by
  refine Spec.of (by decide) (Nat.le_of_ble_eq_true rfl) [some (.ref l0)] rfl ?_
  unfold f_X5_takeNumber at hw
  refine G_aload_n dX5_takeNumber_0 rfl ?_
  refine G_iconst (v := (0 : Int32)) dX5_takeNumber_1 (by decide) ?_
  obtain ⟨c1, hw⟩ := wp_ck hw
  refine G_putI fl_X5_number w_176 dX5_takeNumber_2 c1 ?_
  refine G.nmh fun h2 eh2 => ?_
  have hw := wp_bd hw h2 eh2
  refine G.less [some (.ref l0)] ⟨rfl, trivial⟩ ?_
  exact f_X5_takeNumber_5_ok hs N _ h2 Q hw
set_option maxHeartbeats 4000000 in
set_option maxRecDepth 100000 in
theorem s_J0_isLatin1_aae02 {Γ : GX} (hs : SF Γ) {N : Nat} (l0 : Nat) (h : PH) (Q : Int32 → PH → Prop) (hw : wp (f_J0_isLatin1_aae02 N l0 h) Q) : Spec Γ yJ0_isLatin1_aae02 cJ0_isLatin1_aae02 1 (some .boolean) (1, 0, 0) [.ref l0] h (q_i Q) := by
  refine Spec.of (by decide) (Nat.le_of_ble_eq_true rfl) [some (.ref l0)] rfl ?_
  unfold f_J0_isLatin1_aae02 at hw
  refine G_compact hs w_622 dJ0_isLatin1_aae02_0 ?_
  have hw := wp_if hw
  refine G_if_eq (tgt := 17) dJ0_isLatin1_aae02_3 rfl (fun c1 => ?_) (fun c1 => ?_)
  · have hw := hw.1 c1
    refine G_iconst (v := (0 : Int32)) dJ0_isLatin1_aae02_17 (by decide) ?_
    exact G_zreturn rfl dJ0_isLatin1_aae02_18 rfl ⟨_, rfl, wp_ret hw⟩
  · have hw := hw.2 c1
    refine G_aload_n dJ0_isLatin1_aae02_6 rfl ?_
    obtain ⟨c2, hw⟩ := wp_ck hw
    refine G_scoder hs c2 w_2097 dJ0_isLatin1_aae02_7 ?_
    have hw := wp_if hw
    refine G_if_ne (tgt := 17) dJ0_isLatin1_aae02_10 rfl (fun c3 => ?_) (fun c3 => ?_)
    · have hw := hw.2 c3
      refine G_iconst (v := (0 : Int32)) dJ0_isLatin1_aae02_17 (by decide) ?_
      exact G_zreturn rfl dJ0_isLatin1_aae02_18 rfl ⟨_, rfl, wp_ret hw⟩
    · have hw := hw.1 c3
      refine G_iconst (v := (1 : Int32)) dJ0_isLatin1_aae02_13 (by decide) ?_
      refine G_goto (tgt := 18) dJ0_isLatin1_aae02_14 rfl ?_
      exact G_zreturn rfl dJ0_isLatin1_aae02_18 rfl ⟨_, rfl, wp_ret hw⟩
set_option maxHeartbeats 4000000 in
set_option maxRecDepth 100000 in
theorem s_J0_coder_7d493 {Γ : GX} (hs : SF Γ) {N : Nat} (l0 : Nat) (h : PH) (Q : Int32 → PH → Prop) (hw : wp (f_J0_coder_7d493 N l0 h) Q) : Spec Γ yJ0_coder_7d493 cJ0_coder_7d493 1 (some .byte) (1, 0, 0) [.ref l0] h (q_i Q) := by
  refine Spec.of (by decide) (Nat.le_of_ble_eq_true rfl) [some (.ref l0)] rfl ?_
  unfold f_J0_coder_7d493 at hw
  refine G_compact hs w_622 dJ0_coder_7d493_0 ?_
  have hw := wp_if hw
  refine G_if_eq (tgt := 13) dJ0_coder_7d493_3 rfl (fun c1 => ?_) (fun c1 => ?_)
  · have hw := hw.1 c1
    refine G_iconst (v := (1 : Int32)) dJ0_coder_7d493_13 (by decide) ?_
    exact G_zreturn rfl dJ0_coder_7d493_14 rfl ⟨_, rfl, wp_ret hw⟩
  · have hw := hw.2 c1
    refine G_aload_n dJ0_coder_7d493_6 rfl ?_
    obtain ⟨c2, hw⟩ := wp_ck hw
    refine G_scoder hs c2 w_2097 dJ0_coder_7d493_7 ?_
    refine G_goto (tgt := 14) dJ0_coder_7d493_10 rfl ?_
    exact G_zreturn rfl dJ0_coder_7d493_14 rfl ⟨_, rfl, wp_ret hw⟩
set_option maxHeartbeats 4000000 in
set_option maxRecDepth 100000 in
theorem s_J0_length_8abf5 {Γ : GX} (hs : SF Γ) {N : Nat} (l0 : Nat) (h : PH) (Q : Int32 → PH → Prop) (hw : wp (f_J0_length_8abf5 N l0 h) Q) : Spec Γ yJ0_length_8abf5 cJ0_length_8abf5 1 (some .int) (2, 0, 0) [.ref l0] h (q_i Q) := by
  refine Spec.of (by decide) (Nat.le_of_ble_eq_true rfl) [some (.ref l0)] rfl ?_
  unfold f_J0_length_8abf5 at hw
  refine G_aload_n dJ0_length_8abf5_0 rfl ?_
  obtain ⟨c1, hw⟩ := wp_ck hw
  refine G_svalue hs c1 w_2098 dJ0_length_8abf5_1 ?_
  obtain ⟨c2, hw⟩ := wp_ck hw
  refine G_slen hs c2 dJ0_length_8abf5_4 ?_
  refine G_aload_n dJ0_length_8abf5_5 rfl ?_
  refine G_callVS (As := []) hs (s_J0_coder_7d493 hs l0 h _ (wp_cl hw)) ca_J0_coder_7d493 w_629 w_630 w_628 c1 (Nat.le_of_ble_eq_true rfl) (Nat.le_of_ble_eq_true rfl) rfl (Nat.le_of_ble_eq_true rfl) (Nat.le_of_ble_eq_true rfl) (Nat.le_of_ble_eq_true rfl) dJ0_length_8abf5_6 rfl (fun v h4 hq => ?_)
  obtain ⟨r3, rfl, hw⟩ := hq
  refine G.cse (cs' := (0, 0)) rfl ?_
  show GZ _ _ _ _ _ _ _ 9 _ (.int r3 :: [.int (8 : Int32)]) _ _
  refine G_ishr dJ0_length_8abf5_9 ?_
  exact G_ireturn rfl dJ0_length_8abf5_10 ⟨_, rfl, wp_ret hw⟩
set_option maxHeartbeats 4000000 in
set_option maxRecDepth 100000 in
theorem s_J1_canEncode_9a6ad {Γ : GX} (hs : SF Γ) {N : Nat} (l0 : Int32) (h : PH) (Q : Int32 → PH → Prop) (hw : wp (f_J1_canEncode_9a6ad N l0 h) Q) : Spec Γ yJ1_canEncode_9a6ad cJ1_canEncode_9a6ad 1 (some .boolean) (1, 0, 0) [.int l0] h (q_i Q) := by
  refine Spec.of (by decide) (Nat.le_of_ble_eq_true rfl) [some (.int l0)] rfl ?_
  unfold f_J1_canEncode_9a6ad at hw
  refine G_iload_n dJ1_canEncode_9a6ad_0 rfl ?_
  have hw := wp_if hw
  refine G_if_lt (tgt := 15) dJ1_canEncode_9a6ad_1 rfl (fun c1 => ?_) (fun c1 => ?_)
  · have hw := hw.1 c1
    refine G_iconst (v := (0 : Int32)) dJ1_canEncode_9a6ad_15 (by decide) ?_
    exact G_zreturn rfl dJ1_canEncode_9a6ad_16 rfl ⟨_, rfl, wp_ret hw⟩
  · have hw := hw.2 c1
    refine G_iload_n dJ1_canEncode_9a6ad_4 rfl ?_
    refine G_sipush (v := (255 : Int32)) dJ1_canEncode_9a6ad_5 (by decide) ?_
    have hw := wp_if hw
    refine G_icmp_gt (tgt := 15) dJ1_canEncode_9a6ad_8 rfl (fun c2 => ?_) (fun c2 => ?_)
    · have hw := hw.1 c2
      refine G_iconst (v := (0 : Int32)) dJ1_canEncode_9a6ad_15 (by decide) ?_
      exact G_zreturn rfl dJ1_canEncode_9a6ad_16 rfl ⟨_, rfl, wp_ret hw⟩
    · have hw := hw.2 c2
      refine G_iconst (v := (1 : Int32)) dJ1_canEncode_9a6ad_11 (by decide) ?_
      refine G_goto (tgt := 16) dJ1_canEncode_9a6ad_12 rfl ?_
      exact G_zreturn rfl dJ1_canEncode_9a6ad_16 rfl ⟨_, rfl, wp_ret hw⟩
set_option maxHeartbeats 4000000 in
set_option maxRecDepth 100000 in
theorem f_J1_indexOfChar_4cfef_7_bok {Γ : GX} (hs : SF Γ) {N : Nat} {K_7 : Nat → Int32 → Int32 → Int32 → PH → Option (Int32 × PH)} (hK_7 : ∀ (l0 : Nat) (l3 : Int32) (l4 : Int32) (l5 : Int32) (h : PH) (Q : Int32 → PH → Prop), wp (K_7 l0 l3 l4 l5 h) Q → G Γ yJ1_indexOfChar_4cfef cJ1_indexOfChar_4cfef 6 (some .int) (1, 0, 0) 7 [some (.ref l0), none, none, some (.int l3), some (.int l4), some (.int l5)] [] h (0, 0) (q_i Q)) (l0 : Nat) (l3 : Int32) (l4 : Int32) (l5 : Int32) (h : PH) (Q : Int32 → PH → Prop) (hw : wp (f_J1_indexOfChar_4cfef_7_b N K_7 l0 l3 l4 l5 h) Q) : G Γ yJ1_indexOfChar_4cfef cJ1_indexOfChar_4cfef 6 (some .int) (1, 0, 0) 7 [some (.ref l0), none, none, some (.int l3), some (.int l4), some (.int l5)] [] h (0, 0) (q_i Q) := by
  unfold f_J1_indexOfChar_4cfef_7_b at hw
  refine G_iload dJ1_indexOfChar_4cfef_7 rfl ?_
  refine G_iload_n dJ1_indexOfChar_4cfef_9 rfl ?_
  have hw := wp_if hw
  refine G_icmp_ge (tgt := 31) dJ1_indexOfChar_4cfef_10 rfl (fun c1 => ?_) (fun c1 => ?_)
  · have hw := hw.1 c1
    refine G_iconst (v := (-1 : Int32)) dJ1_indexOfChar_4cfef_31 (by decide) ?_
    exact G_ireturn rfl dJ1_indexOfChar_4cfef_32 ⟨_, rfl, wp_ret hw⟩
  · have hw := hw.2 c1
    refine G_aload_n dJ1_indexOfChar_4cfef_13 rfl ?_
    refine G_iload dJ1_indexOfChar_4cfef_14 rfl ?_
    obtain ⟨c2, hw⟩ := wp_ck hw
    obtain ⟨c3, hw⟩ := wp_ck hw
    refine G_sbyte hs c2 dJ1_indexOfChar_4cfef_16 c3 ?_
    refine G_iload dJ1_indexOfChar_4cfef_17 rfl ?_
    have hw := wp_if hw
    refine G_icmp_ne (tgt := 25) dJ1_indexOfChar_4cfef_19 rfl (fun c4 => ?_) (fun c4 => ?_)
    · have hw := hw.2 c4
      obtain ⟨v5, ev5⟩ : ∃ z : Int32, z = l5 + (1 : Int32) := ⟨_, rfl⟩
      have hw := wp_bd hw v5 ev5
      refine G_iinc (v := v5) (lv' := [some (.ref l0), none, none, some (.int l3), some (.int l4), some (.int v5)]) dJ1_indexOfChar_4cfef_25 rfl (by rw [ev5]; rfl) (Nat.le_of_ble_eq_true rfl) rfl ?_
      refine G_goto (tgt := 7) dJ1_indexOfChar_4cfef_28 rfl ?_
      refine G.less [some (.ref l0), none, none, some (.int l3), some (.int l4), some (.int v5)] ⟨rfl, ⟨rfl, ⟨rfl, ⟨rfl, trivial⟩⟩⟩⟩ ?_
      exact hK_7 _ _ _ _ h Q hw
    · have hw := hw.1 c4
      refine G_iload dJ1_indexOfChar_4cfef_22 rfl ?_
      exact G_ireturn rfl dJ1_indexOfChar_4cfef_24 ⟨_, rfl, wp_ret hw⟩
theorem f_J1_indexOfChar_4cfef_7_ok {Γ : GX} (hs : SF Γ) {N : Nat} : ∀ (n : Nat) (l0 : Nat) (l3 : Int32) (l4 : Int32) (l5 : Int32) (h : PH) (Q : Int32 → PH → Prop), wp (f_J1_indexOfChar_4cfef_7 N n l0 l3 l4 l5 h) Q → G Γ yJ1_indexOfChar_4cfef cJ1_indexOfChar_4cfef 6 (some .int) (1, 0, 0) 7 [some (.ref l0), none, none, some (.int l3), some (.int l4), some (.int l5)] [] h (0, 0) (q_i Q)
  | 0, _, _, _, _, _, Q, hw => (wp_no hw).elim
  | n + 1, l0, l3, l4, l5, h, Q, hw => f_J1_indexOfChar_4cfef_7_bok (N := N) hs (f_J1_indexOfChar_4cfef_7_ok (N := N) hs n) l0 l3 l4 l5 h Q hw
set_option maxHeartbeats 4000000 in
set_option maxRecDepth 100000 in
theorem s_J1_indexOfChar_4cfef {Γ : GX} (hs : SF Γ) {N : Nat} (l0 : Nat) (l1 : Int32) (l2 : Int32) (l3 : Int32) (h : PH) (Q : Int32 → PH → Prop) (hw : wp (f_J1_indexOfChar_4cfef N l0 l1 l2 l3 h) Q) : Spec Γ yJ1_indexOfChar_4cfef cJ1_indexOfChar_4cfef 6 (some .int) (1, 0, 0) [.ref l0, .int l1, .int l2, .int l3] h (q_i Q) := by
  refine Spec.of (by decide) (Nat.le_of_ble_eq_true rfl) [some (.ref l0), some (.int l1), some (.int l2), some (.int l3), none, none] rfl ?_
  unfold f_J1_indexOfChar_4cfef at hw
  refine G_iload_n dJ1_indexOfChar_4cfef_0 rfl ?_
  refine G_i2b dJ1_indexOfChar_4cfef_1 ?_
  refine G.topi fun v1 ev1 => ?_
  have hw := wp_bd hw v1 ev1
  refine G_istore (lv' := [some (.ref l0), some (.int l1), some (.int l2), some (.int l3), some (.int v1), none]) dJ1_indexOfChar_4cfef_2 (Nat.le_of_ble_eq_true rfl) rfl ?_
  refine G_iload_n dJ1_indexOfChar_4cfef_4 rfl ?_
  refine G_istore (lv' := [some (.ref l0), some (.int l1), some (.int l2), some (.int l3), some (.int v1), some (.int l2)]) dJ1_indexOfChar_4cfef_5 (Nat.le_of_ble_eq_true rfl) rfl ?_
  refine G.less [some (.ref l0), none, none, some (.int l3), some (.int v1), some (.int l2)] ⟨rfl, ⟨rfl, ⟨rfl, ⟨rfl, trivial⟩⟩⟩⟩ ?_
  exact f_J1_indexOfChar_4cfef_7_ok hs N _ _ _ _ h Q hw
set_option maxHeartbeats 4000000 in
set_option maxRecDepth 100000 in
theorem s_J1_indexOf_4cfef {Γ : GX} (hs : SF Γ) {N : Nat} (l0 : Nat) (l1 : Int32) (l2 : Int32) (l3 : Int32) (h : PH) (Q : Int32 → PH → Prop) (hw : wp (f_J1_indexOf_4cfef N l0 l1 l2 l3 h) Q) : Spec Γ yJ1_indexOf_4cfef cJ1_indexOf_4cfef 4 (some .int) (2, 0, 0) [.ref l0, .int l1, .int l2, .int l3] h (q_i Q) := by
  refine Spec.of (by decide) (Nat.le_of_ble_eq_true rfl) [some (.ref l0), some (.int l1), some (.int l2), some (.int l3)] rfl ?_
  unfold f_J1_indexOf_4cfef at hw
  refine G_iload_n dJ1_indexOf_4cfef_0 rfl ?_
  refine G_callS (As := [.int l1]) (s_J1_canEncode_9a6ad hs l1 h _ (wp_cl hw)) ca_J1_canEncode_9a6ad w_636 w_635 (Nat.le_of_ble_eq_true rfl) (Nat.le_of_ble_eq_true rfl) rfl (Nat.le_of_ble_eq_true rfl) (Nat.le_of_ble_eq_true rfl) (Nat.le_of_ble_eq_true rfl) dJ1_indexOf_4cfef_1 rfl (fun v h2 hq => ?_)
  obtain ⟨r1, rfl, hw⟩ := hq
  refine G.cse (cs' := (0, 0)) rfl ?_
  show GZ _ _ _ _ _ _ _ 4 _ (.int r1 :: []) _ _
  have hw := wp_if hw
  refine G_if_ne (tgt := 9) dJ1_indexOf_4cfef_4 rfl (fun c3 => ?_) (fun c3 => ?_)
  · have hw := hw.2 c3
    refine G_iload_n dJ1_indexOf_4cfef_9 rfl ?_
    refine G_iconst (v := (0 : Int32)) dJ1_indexOf_4cfef_10 (by decide) ?_
    refine G_mmax w_638 w_639 w_139 w_640 dJ1_indexOf_4cfef_11 (Nat.le_of_ble_eq_true rfl) (Nat.le_of_ble_eq_true rfl) (Nat.le_of_ble_eq_true rfl) (Nat.le_of_ble_eq_true rfl) ?_
    refine G.topi fun v4 ev4 => ?_
    have hw := wp_bd hw v4 ev4
    refine G_istore_n (lv' := [some (.ref l0), some (.int l1), some (.int v4), some (.int l3)]) dJ1_indexOf_4cfef_14 (Nat.le_of_ble_eq_true rfl) rfl ?_
    refine G_iload_n dJ1_indexOf_4cfef_15 rfl ?_
    refine G_aload_n dJ1_indexOf_4cfef_16 rfl ?_
    obtain ⟨c5, hw⟩ := wp_ck hw
    refine G_slen hs c5 dJ1_indexOf_4cfef_17 ?_
    refine G_mmin w_641 w_642 w_139 w_643 dJ1_indexOf_4cfef_18 (Nat.le_of_ble_eq_true rfl) (Nat.le_of_ble_eq_true rfl) (Nat.le_of_ble_eq_true rfl) (Nat.le_of_ble_eq_true rfl) ?_
    refine G.topi fun v6 ev6 => ?_
    have hw := wp_bd hw v6 ev6
    refine G_istore_n (lv' := [some (.ref l0), some (.int l1), some (.int v4), some (.int v6)]) dJ1_indexOf_4cfef_21 (Nat.le_of_ble_eq_true rfl) rfl ?_
    refine G_iload_n dJ1_indexOf_4cfef_22 rfl ?_
    refine G_iload_n dJ1_indexOf_4cfef_23 rfl ?_
    have hw := wp_if hw
    refine G_icmp_lt (tgt := 29) dJ1_indexOf_4cfef_24 rfl (fun c7 => ?_) (fun c7 => ?_)
    · have hw := hw.1 c7
      refine G_aload_n dJ1_indexOf_4cfef_29 rfl ?_
      refine G_iload_n dJ1_indexOf_4cfef_30 rfl ?_
      refine G_iload_n dJ1_indexOf_4cfef_31 rfl ?_
      refine G_iload_n dJ1_indexOf_4cfef_32 rfl ?_
      refine G_callS (As := [.ref l0, .int l1, .int v4, .int v6]) (s_J1_indexOfChar_4cfef hs l0 l1 v4 v6 h2 _ (wp_cl hw)) ca_J1_indexOfChar_4cfef w_645 w_644 (Nat.le_of_ble_eq_true rfl) (Nat.le_of_ble_eq_true rfl) rfl (Nat.le_of_ble_eq_true rfl) (Nat.le_of_ble_eq_true rfl) (Nat.le_of_ble_eq_true rfl) dJ1_indexOf_4cfef_33 rfl (fun v h9 hq => ?_)
      obtain ⟨r8, rfl, hw⟩ := hq
      refine G.cse (cs' := (0, 0)) rfl ?_
      show GZ _ _ _ _ _ _ _ 36 _ (.int r8 :: []) _ _
      exact G_ireturn rfl dJ1_indexOf_4cfef_36 ⟨_, rfl, wp_ret hw⟩
    · have hw := hw.2 c7
      refine G_iconst (v := (-1 : Int32)) dJ1_indexOf_4cfef_27 (by decide) ?_
      exact G_ireturn rfl dJ1_indexOf_4cfef_28 ⟨_, rfl, wp_ret hw⟩
  · have hw := hw.1 c3
    refine G_iconst (v := (-1 : Int32)) dJ1_indexOf_4cfef_7 (by decide) ?_
    exact G_ireturn rfl dJ1_indexOf_4cfef_8 ⟨_, rfl, wp_ret hw⟩
set_option maxHeartbeats 4000000 in
set_option maxRecDepth 100000 in
theorem s_J0_indexOf_7cf53 {Γ : GX} (hs : SF Γ) {N : Nat} (l0 : Nat) (l1 : Int32) (l2 : Int32) (h : PH) (Q : Int32 → PH → Prop) (hw : wp (f_J0_indexOf_7cf53 N l0 l1 l2 h) Q) : Spec Γ yJ0_indexOf_7cf53 cJ0_indexOf_7cf53 3 (some .int) (3, 0, 0) [.ref l0, .int l1, .int l2] h (q_i Q) := by
  refine Spec.of (by decide) (Nat.le_of_ble_eq_true rfl) [some (.ref l0), some (.int l1), some (.int l2)] rfl ?_
  unfold f_J0_indexOf_7cf53 at hw
  refine G_aload_n dJ0_indexOf_7cf53_0 rfl ?_
  obtain ⟨c3, hw⟩ := wp_ck hw
  refine G_callVS (As := []) hs (s_J0_isLatin1_aae02 hs l0 h _ (wp_cl hw)) ca_J0_isLatin1_aae02 w_619 w_620 w_618 c3 (Nat.le_of_ble_eq_true rfl) (Nat.le_of_ble_eq_true rfl) rfl (Nat.le_of_ble_eq_true rfl) (Nat.le_of_ble_eq_true rfl) (Nat.le_of_ble_eq_true rfl) dJ0_indexOf_7cf53_1 rfl (fun v h2 hq => ?_)
  obtain ⟨r1, rfl, hw⟩ := hq
  refine G.cse (cs' := (0, 0)) rfl ?_
  show GZ _ _ _ _ _ _ _ 4 _ (.int r1 :: []) _ _
  have hw := wp_if hw
  refine G_if_eq (tgt := 23) dJ0_indexOf_7cf53_4 rfl (fun c4 => ?_) (fun c4 => ?_)
  · have hw := hw.1 c4
    refine G_aload_n dJ0_indexOf_7cf53_23 rfl ?_
    obtain ⟨c5, hw⟩ := wp_ck hw
    refine G_svalue hs c5 w_2098 dJ0_indexOf_7cf53_24 ?_
    refine G_iload_n dJ0_indexOf_7cf53_27 rfl ?_
    refine G_iload_n dJ0_indexOf_7cf53_28 rfl ?_
    refine G_aload_n dJ0_indexOf_7cf53_29 rfl ?_
    refine G_callVS (As := []) hs (s_J0_length_8abf5 hs l0 h2 _ (wp_cl hw)) ca_J0_length_8abf5 w_625 w_626 w_624 c5 (Nat.le_of_ble_eq_true rfl) (Nat.le_of_ble_eq_true rfl) rfl (Nat.le_of_ble_eq_true rfl) (Nat.le_of_ble_eq_true rfl) (Nat.le_of_ble_eq_true rfl) dJ0_indexOf_7cf53_30 rfl (fun v h7 hq => ?_)
    obtain ⟨r6, rfl, hw⟩ := hq
    refine G.cse (cs' := (0, 0)) rfl ?_
    show GZ _ _ _ _ _ _ _ 33 _ (.int r6 :: [.int l2, .int l1, .ref (hW h2 30)]) _ _
    exact (wp_no hw).elim
  · have hw := hw.2 c4
    refine G_aload_n dJ0_indexOf_7cf53_7 rfl ?_
    obtain ⟨c8, hw⟩ := wp_ck hw
    refine G_svalue hs c8 w_2098 dJ0_indexOf_7cf53_8 ?_
    refine G_iload_n dJ0_indexOf_7cf53_11 rfl ?_
    refine G_iload_n dJ0_indexOf_7cf53_12 rfl ?_
    refine G_aload_n dJ0_indexOf_7cf53_13 rfl ?_
    refine G_callVS (As := []) hs (s_J0_length_8abf5 hs l0 h2 _ (wp_cl hw)) ca_J0_length_8abf5 w_625 w_626 w_624 c8 (Nat.le_of_ble_eq_true rfl) (Nat.le_of_ble_eq_true rfl) rfl (Nat.le_of_ble_eq_true rfl) (Nat.le_of_ble_eq_true rfl) (Nat.le_of_ble_eq_true rfl) dJ0_indexOf_7cf53_14 rfl (fun v h10 hq => ?_)
    obtain ⟨r9, rfl, hw⟩ := hq
    refine G.cse (cs' := (0, 0)) rfl ?_
    show GZ _ _ _ _ _ _ _ 17 _ (.int r9 :: [.int l2, .int l1, .ref (hW h2 30)]) _ _
    refine G_callS (As := [.ref (hW h2 30), .int l1, .int l2, .int r9]) (s_J1_indexOf_4cfef hs (hW h2 30) l1 l2 r9 h10 _ (wp_cl hw)) ca_J1_indexOf_4cfef w_633 w_632 (Nat.le_of_ble_eq_true rfl) (Nat.le_of_ble_eq_true rfl) rfl (Nat.le_of_ble_eq_true rfl) (Nat.le_of_ble_eq_true rfl) (Nat.le_of_ble_eq_true rfl) dJ0_indexOf_7cf53_17 rfl (fun v h12 hq => ?_)
    obtain ⟨r11, rfl, hw⟩ := hq
    refine G.cse (cs' := (0, 0)) rfl ?_
    show GZ _ _ _ _ _ _ _ 20 _ (.int r11 :: []) _ _
    refine G_goto (tgt := 36) dJ0_indexOf_7cf53_20 rfl ?_
    exact G_ireturn rfl dJ0_indexOf_7cf53_36 ⟨_, rfl, wp_ret hw⟩
set_option maxHeartbeats 4000000 in
set_option maxRecDepth 100000 in
theorem s_J0_indexOf_0f7a4 {Γ : GX} (hs : SF Γ) {N : Nat} (l0 : Nat) (l1 : Int32) (h : PH) (Q : Int32 → PH → Prop) (hw : wp (f_J0_indexOf_0f7a4 N l0 l1 h) Q) : Spec Γ yJ0_indexOf_0f7a4 cJ0_indexOf_0f7a4 2 (some .int) (4, 0, 0) [.ref l0, .int l1] h (q_i Q) := by
  refine Spec.of (by decide) (Nat.le_of_ble_eq_true rfl) [some (.ref l0), some (.int l1)] rfl ?_
  unfold f_J0_indexOf_0f7a4 at hw
  refine G_aload_n dJ0_indexOf_0f7a4_0 rfl ?_
  refine G_iload_n dJ0_indexOf_0f7a4_1 rfl ?_
  refine G_iconst (v := (0 : Int32)) dJ0_indexOf_0f7a4_2 (by decide) ?_
  obtain ⟨c3, hw⟩ := wp_ck hw
  refine G_callVS (As := [.int l1, .int (0 : Int32)]) hs (s_J0_indexOf_7cf53 hs l0 l1 (0 : Int32) h _ (wp_cl hw)) ca_J0_indexOf_7cf53 w_615 w_616 w_614 c3 (Nat.le_of_ble_eq_true rfl) (Nat.le_of_ble_eq_true rfl) rfl (Nat.le_of_ble_eq_true rfl) (Nat.le_of_ble_eq_true rfl) (Nat.le_of_ble_eq_true rfl) dJ0_indexOf_0f7a4_3 rfl (fun v h2 hq => ?_)
  obtain ⟨r1, rfl, hw⟩ := hq
  refine G.cse (cs' := (0, 0)) rfl ?_
  show GZ _ _ _ _ _ _ _ 6 _ (.int r1 :: []) _ _
  exact G_ireturn rfl dJ0_indexOf_0f7a4_6 ⟨_, rfl, wp_ret hw⟩
set_option maxHeartbeats 4000000 in
set_option maxRecDepth 100000 in
theorem f_X5_step_47_ok {Γ : GX} (hs : SF Γ) {N : Nat} {K_8 : Nat → PH → Option (Unit × PH)} (hK_8 : ∀ (l0 : Nat) (h : PH) (Q : Unit → PH → Prop), wp (K_8 l0 h) Q → G Γ yX5_step cX5_step 1 none (5, 0, 0) 8 [some (.ref l0)] [] h (0, 0) (q_u Q)) (l0 : Nat) (h : PH) (Q : Unit → PH → Prop) (hw : wp (f_X5_step_47 N K_8 l0 h) Q) : G Γ yX5_step cX5_step 1 none (5, 0, 0) 47 [some (.ref l0)] [] h (0, 0) (q_u Q) := by
  unfold f_X5_step_47 at hw
  refine G_aload_n dX5_step_47 rfl ?_
  refine G_dup dX5_step_48 rfl ?_
  obtain ⟨c1, hw⟩ := wp_ck hw
  refine G_getI fl_X5_next w_171 dX5_step_49 c1 ?_
  refine G_iconst (v := (1 : Int32)) dX5_step_52 (by decide) ?_
  refine G_iadd dX5_step_53 ?_
  refine G_putI fl_X5_next w_171 dX5_step_54 c1 ?_
  refine G.nmh fun h2 eh2 => ?_
  have hw := wp_bd hw h2 eh2
  refine G_goto (tgt := 8) dX5_step_57 rfl ?_
  refine G.less [some (.ref l0)] ⟨rfl, trivial⟩ ?_
  exact hK_8 _ h2 Q hw
set_option maxHeartbeats 4000000 in
set_option maxRecDepth 100000 in
theorem f_X5_step_167_ok {Γ : GX} (hs : SF Γ) {N : Nat} (s0 : Int32) (s1 : Nat) (l0 : Nat) (h : PH) (Q : Unit → PH → Prop) (hw : wp (f_X5_step_167 N s0 s1 l0 h) Q) : G Γ yX5_step cX5_step 1 none (5, 0, 0) 167 [some (.ref l0)] [.int s0, .ref s1] h (0, 0) (q_u Q) := by
  unfold f_X5_step_167 at hw
  obtain ⟨c1, hw⟩ := wp_ck hw
  refine G_putI fl_X5_kind w_172 dX5_step_167 c1 ?_
  refine G.nmh fun h2 eh2 => ?_
  have hw := wp_bd hw h2 eh2
  refine G_aload_n dX5_step_170 rfl ?_
  refine G_dup dX5_step_171 rfl ?_
  obtain ⟨c3, hw⟩ := wp_ck hw
  refine G_getI fl_X5_next w_171 dX5_step_172 c3 ?_
  refine G_iconst (v := (1 : Int32)) dX5_step_175 (by decide) ?_
  refine G_iadd dX5_step_176 ?_
  refine G_putI fl_X5_next w_171 dX5_step_177 c3 ?_
  refine G.nmh fun h4 eh4 => ?_
  have hw := wp_bd hw h4 eh4
  exact G_vreturn rfl dX5_step_180 ⟨rfl, wp_ret hw⟩
set_option maxHeartbeats 4000000 in
set_option maxRecDepth 100000 in
theorem f_X5_step_60_ok {Γ : GX} (hs : SF Γ) {N : Nat} (l0 : Nat) (h : PH) (Q : Unit → PH → Prop) (hw : wp (f_X5_step_60 N l0 h) Q) : G Γ yX5_step cX5_step 1 none (5, 0, 0) 60 [some (.ref l0)] [] h (0, 0) (q_u Q) := by
  unfold f_X5_step_60 at hw
  refine G_aload_n dX5_step_60 rfl ?_
  refine G_aload_n dX5_step_61 rfl ?_
  obtain ⟨c1, hw⟩ := wp_ck hw
  refine G_getI fl_X5_next w_171 dX5_step_62 c1 ?_
  refine G_putI fl_X5_place w_173 dX5_step_65 c1 ?_
  refine G.nmh fun h2 eh2 => ?_
  have hw := wp_bd hw h2 eh2
  refine G_aload_n dX5_step_68 rfl ?_
  refine G_null dX5_step_69 ?_
  obtain ⟨c3, hw⟩ := wp_ck hw
  refine G_putR (v := none) fl_X5_word (Or.inl ⟨_, rfl⟩) w_179 dX5_step_70 c3 ?_
  refine G.nmh fun h4 eh4 => ?_
  have hw := wp_bd hw h4 eh4
  refine G_aload_n dX5_step_73 rfl ?_
  obtain ⟨c5, hw⟩ := wp_ck hw
  refine G_getI fl_X5_next w_171 dX5_step_74 c5 ?_
  refine G_aload_n dX5_step_77 rfl ?_
  refine G_getI fl_X5_length w_170 dX5_step_78 c5 ?_
  have hw := wp_if hw
  refine G_icmp_lt (tgt := 92) dX5_step_81 rfl (fun c6 => ?_) (fun c6 => ?_)
  · have hw := hw.1 c6
    refine G_aload_n dX5_step_92 rfl ?_
    refine G_getR fl_X5_signs w_168 dX5_step_93 c5 ?_
    obtain ⟨a7, ea7, hw⟩ := wp_rq hw
    refine G.sure ea7 ?_
    refine G_aload_n dX5_step_96 rfl ?_
    refine G_getI fl_X5_next w_171 dX5_step_97 c5 ?_
    obtain ⟨c8, hw⟩ := wp_ck hw
    obtain ⟨c9, hw⟩ := wp_ck hw
    refine G_caload dX5_step_100 c8 c9 ?_
    refine G_callS (As := [.int (hI h4 a7 (ix (hI h4 l0 2)))]) (s_X5_isLetter hs (hI h4 a7 (ix (hI h4 l0 2))) h4 _ (wp_cl hw)) ca_X5_isLetter w_590 w_589 (Nat.le_of_ble_eq_true rfl) (Nat.le_of_ble_eq_true rfl) rfl (Nat.le_of_ble_eq_true rfl) (Nat.le_of_ble_eq_true rfl) (Nat.le_of_ble_eq_true rfl) dX5_step_101 rfl (fun v h11 hq => ?_)
    obtain ⟨r10, rfl, hw⟩ := hq
    refine G.cse (cs' := (0, 0)) rfl ?_
    show GZ _ _ _ _ _ _ _ 104 _ (.int r10 :: []) _ _
    have hw := wp_if hw
    refine G_if_eq (tgt := 114) dX5_step_104 rfl (fun c12 => ?_) (fun c12 => ?_)
    · have hw := hw.1 c12
      refine G_aload_n dX5_step_114 rfl ?_
      obtain ⟨c13, hw⟩ := wp_ck hw
      refine G_getR fl_X5_signs w_168 dX5_step_115 c13 ?_
      obtain ⟨a14, ea14, hw⟩ := wp_rq hw
      refine G.sure ea14 ?_
      refine G_aload_n dX5_step_118 rfl ?_
      refine G_getI fl_X5_next w_171 dX5_step_119 c13 ?_
      obtain ⟨c15, hw⟩ := wp_ck hw
      obtain ⟨c16, hw⟩ := wp_ck hw
      refine G_caload dX5_step_122 c15 c16 ?_
      refine G_callS (As := [.int (hI h11 a14 (ix (hI h11 l0 2)))]) (s_X5_isDigit hs (hI h11 a14 (ix (hI h11 l0 2))) h11 _ (wp_cl hw)) ca_X5_isDigit w_603 w_602 (Nat.le_of_ble_eq_true rfl) (Nat.le_of_ble_eq_true rfl) rfl (Nat.le_of_ble_eq_true rfl) (Nat.le_of_ble_eq_true rfl) (Nat.le_of_ble_eq_true rfl) dX5_step_123 rfl (fun v h18 hq => ?_)
      obtain ⟨r17, rfl, hw⟩ := hq
      refine G.cse (cs' := (0, 0)) rfl ?_
      show GZ _ _ _ _ _ _ _ 126 _ (.int r17 :: []) _ _
      have hw := wp_if hw
      refine G_if_eq (tgt := 136) dX5_step_126 rfl (fun c19 => ?_) (fun c19 => ?_)
      · have hw := hw.1 c19
        refine G_aload_n dX5_step_136 rfl ?_
        refine G_ldcS rfl dX5_step_137 ?_
        refine G_aload_n dX5_step_139 rfl ?_
        obtain ⟨c20, hw⟩ := wp_ck hw
        refine G_getR fl_X5_signs w_168 dX5_step_140 c20 ?_
        obtain ⟨a21, ea21, hw⟩ := wp_rq hw
        refine G.sure ea21 ?_
        refine G_aload_n dX5_step_143 rfl ?_
        refine G_getI fl_X5_next w_171 dX5_step_144 c20 ?_
        obtain ⟨c22, hw⟩ := wp_ck hw
        obtain ⟨c23, hw⟩ := wp_ck hw
        refine G_caload dX5_step_147 c22 c23 ?_
        obtain ⟨c26, hw⟩ := wp_ck hw
        refine G_callVS (As := [.int (hI h18 a21 (ix (hI h18 l0 2)))]) hs (s_J0_indexOf_0f7a4 hs (hW h18 29) (hI h18 a21 (ix (hI h18 l0 2))) h18 _ (wp_cl hw)) ca_J0_indexOf_0f7a4 w_611 w_612 w_610 c26 (Nat.le_of_ble_eq_true rfl) (Nat.le_of_ble_eq_true rfl) rfl (Nat.le_of_ble_eq_true rfl) (Nat.le_of_ble_eq_true rfl) (Nat.le_of_ble_eq_true rfl) dX5_step_148 rfl (fun v h25 hq => ?_)
        obtain ⟨r24, rfl, hw⟩ := hq
        refine G.cse (cs' := (0, 0)) rfl ?_
        show GZ _ _ _ _ _ _ _ 151 _ (.int r24 :: [.ref l0]) _ _
        have hw := wp_if hw
        refine G_if_lt (tgt := 166) dX5_step_151 rfl (fun c27 => ?_) (fun c27 => ?_)
        · have hw := hw.1 c27
          refine G_iconst (v := (0 : Int32)) dX5_step_166 (by decide) ?_
          refine G.less [some (.ref l0)] ⟨rfl, trivial⟩ ?_
          exact f_X5_step_167_ok hs _ _ _ h25 Q hw
        · have hw := hw.2 c27
          refine G_aload_n dX5_step_154 rfl ?_
          obtain ⟨c28, hw⟩ := wp_ck hw
          refine G_getR fl_X5_signs w_168 dX5_step_155 c28 ?_
          obtain ⟨a29, ea29, hw⟩ := wp_rq hw
          refine G.sure ea29 ?_
          refine G_aload_n dX5_step_158 rfl ?_
          refine G_getI fl_X5_next w_171 dX5_step_159 c28 ?_
          obtain ⟨c30, hw⟩ := wp_ck hw
          obtain ⟨c31, hw⟩ := wp_ck hw
          refine G_caload dX5_step_162 c30 c31 ?_
          refine G_goto (tgt := 167) dX5_step_163 rfl ?_
          refine G.less [some (.ref l0)] ⟨rfl, trivial⟩ ?_
          exact f_X5_step_167_ok hs _ _ _ h25 Q hw
      · have hw := hw.2 c19
        refine G_aload_n dX5_step_129 rfl ?_
        obtain ⟨c34, hw⟩ := wp_ck hw
        refine G_callV (As := []) (s_X5_takeNumber hs l0 h18 _ (wp_cl hw)) ca_X5_takeNumber w_607 w_1 (ci := 5) rfl (by decide) w_605 c34 (Nat.le_of_ble_eq_true rfl) (Nat.le_of_ble_eq_true rfl) rfl (Nat.le_of_ble_eq_true rfl) (Nat.le_of_ble_eq_true rfl) (Nat.le_of_ble_eq_true rfl) dX5_step_130 rfl (fun v h33 hq => ?_)
        obtain ⟨rfl, hw⟩ := hq
        refine G.cse (cs' := (0, 0)) rfl ?_
        show GZ _ _ _ _ _ _ _ 133 _ [] _ _
        refine G_goto (tgt := 180) dX5_step_133 rfl ?_
        exact G_vreturn rfl dX5_step_180 ⟨rfl, wp_ret hw⟩
    · have hw := hw.2 c12
      refine G_aload_n dX5_step_107 rfl ?_
      obtain ⟨c37, hw⟩ := wp_ck hw
      refine G_callV (As := []) (s_X5_takeWord hs l0 h11 _ (wp_cl hw)) ca_X5_takeWord w_594 w_0 (ci := 5) rfl (by decide) w_592 c37 (Nat.le_of_ble_eq_true rfl) (Nat.le_of_ble_eq_true rfl) rfl (Nat.le_of_ble_eq_true rfl) (Nat.le_of_ble_eq_true rfl) (Nat.le_of_ble_eq_true rfl) dX5_step_108 rfl (fun v h36 hq => ?_)
      obtain ⟨rfl, hw⟩ := hq
      refine G.cse (cs' := (0, 0)) rfl ?_
      show GZ _ _ _ _ _ _ _ 111 _ [] _ _
      refine G_goto (tgt := 180) dX5_step_111 rfl ?_
      exact G_vreturn rfl dX5_step_180 ⟨rfl, wp_ret hw⟩
  · have hw := hw.2 c6
    refine G_aload_n dX5_step_84 rfl ?_
    refine G_iconst (v := (1 : Int32)) dX5_step_85 (by decide) ?_
    refine G_putI fl_X5_kind w_172 dX5_step_86 c5 ?_
    refine G.nmh fun h38 eh38 => ?_
    have hw := wp_bd hw h38 eh38
    refine G_goto (tgt := 180) dX5_step_89 rfl ?_
    exact G_vreturn rfl dX5_step_180 ⟨rfl, wp_ret hw⟩
set_option maxHeartbeats 4000000 in
set_option maxRecDepth 100000 in
theorem f_X5_step_8_bok {Γ : GX} (hs : SF Γ) {N : Nat} {K_8 : Nat → PH → Option (Unit × PH)} (hK_8 : ∀ (l0 : Nat) (h : PH) (Q : Unit → PH → Prop), wp (K_8 l0 h) Q → G Γ yX5_step cX5_step 1 none (5, 0, 0) 8 [some (.ref l0)] [] h (0, 0) (q_u Q)) (l0 : Nat) (h : PH) (Q : Unit → PH → Prop) (hw : wp (f_X5_step_8_b N K_8 l0 h) Q) : G Γ yX5_step cX5_step 1 none (5, 0, 0) 8 [some (.ref l0)] [] h (0, 0) (q_u Q) := by
  unfold f_X5_step_8_b at hw
  refine G_aload_n dX5_step_8 rfl ?_
  obtain ⟨c1, hw⟩ := wp_ck hw
  refine G_getI fl_X5_next w_171 dX5_step_9 c1 ?_
  refine G_aload_n dX5_step_12 rfl ?_
  refine G_getI fl_X5_length w_170 dX5_step_13 c1 ?_
  have hw := wp_if hw
  refine G_icmp_ge (tgt := 60) dX5_step_16 rfl (fun c2 => ?_) (fun c2 => ?_)
  · have hw := hw.1 c2
    refine G.less [some (.ref l0)] ⟨rfl, trivial⟩ ?_
    exact f_X5_step_60_ok hs _ h Q hw
  · have hw := hw.2 c2
    refine G_aload_n dX5_step_19 rfl ?_
    refine G_getR fl_X5_signs w_168 dX5_step_20 c1 ?_
    obtain ⟨a3, ea3, hw⟩ := wp_rq hw
    refine G.sure ea3 ?_
    refine G_aload_n dX5_step_23 rfl ?_
    refine G_getI fl_X5_next w_171 dX5_step_24 c1 ?_
    obtain ⟨c4, hw⟩ := wp_ck hw
    obtain ⟨c5, hw⟩ := wp_ck hw
    refine G_caload dX5_step_27 c4 c5 ?_
    refine G_bipush (v := (32 : Int32)) dX5_step_28 (by decide) ?_
    have hw := wp_if hw
    refine G_icmp_eq (tgt := 47) dX5_step_30 rfl (fun c6 => ?_) (fun c6 => ?_)
    · have hw := hw.1 c6
      refine G.less [some (.ref l0)] ⟨rfl, trivial⟩ ?_
      exact f_X5_step_47_ok hs hK_8 _ h Q hw
    · have hw := hw.2 c6
      refine G_aload_n dX5_step_33 rfl ?_
      refine G_getR fl_X5_signs w_168 dX5_step_34 c1 ?_
      obtain ⟨a7, ea7, hw⟩ := wp_rq hw
      refine G.sure ea7 ?_
      refine G_aload_n dX5_step_37 rfl ?_
      refine G_getI fl_X5_next w_171 dX5_step_38 c1 ?_
      obtain ⟨c8, hw⟩ := wp_ck hw
      obtain ⟨c9, hw⟩ := wp_ck hw
      refine G_caload dX5_step_41 c8 c9 ?_
      refine G_bipush (v := (10 : Int32)) dX5_step_42 (by decide) ?_
      have hw := wp_if hw
      refine G_icmp_ne (tgt := 60) dX5_step_44 rfl (fun c10 => ?_) (fun c10 => ?_)
      · have hw := hw.2 c10
        refine G.less [some (.ref l0)] ⟨rfl, trivial⟩ ?_
        exact f_X5_step_60_ok hs _ h Q hw
      · have hw := hw.1 c10
        refine G.less [some (.ref l0)] ⟨rfl, trivial⟩ ?_
        exact f_X5_step_47_ok hs hK_8 _ h Q hw
theorem f_X5_step_8_ok {Γ : GX} (hs : SF Γ) {N : Nat} : ∀ (n : Nat) (l0 : Nat) (h : PH) (Q : Unit → PH → Prop), wp (f_X5_step_8 N n l0 h) Q → G Γ yX5_step cX5_step 1 none (5, 0, 0) 8 [some (.ref l0)] [] h (0, 0) (q_u Q)
  | 0, _, _, Q, hw => (wp_no hw).elim
  | n + 1, l0, h, Q, hw => f_X5_step_8_bok (N := N) hs (f_X5_step_8_ok (N := N) hs n) l0 h Q hw
set_option maxHeartbeats 4000000 in
set_option maxRecDepth 100000 in
theorem s_X5_step {Γ : GX} (hs : SF Γ) {N : Nat} (l0 : Nat) (h : PH) (Q : Unit → PH → Prop) (hw : wp (f_X5_step N l0 h) Q) : Spec Γ yX5_step cX5_step 1 none (5, 0, 0) [.ref l0] h (q_u Q) := by
  refine Spec.of (by decide) (Nat.le_of_ble_eq_true rfl) [some (.ref l0)] rfl ?_
  unfold f_X5_step at hw
  refine G_aload_n dX5_step_0 rfl ?_
  obtain ⟨c1, hw⟩ := wp_ck hw
  refine G_getI fl_X5_fault w_180 dX5_step_1 c1 ?_
  have hw := wp_if hw
  refine G_if_eq (tgt := 8) dX5_step_4 rfl (fun c2 => ?_) (fun c2 => ?_)
  · have hw := hw.1 c2
    refine G.less [some (.ref l0)] ⟨rfl, trivial⟩ ?_
    exact f_X5_step_8_ok hs N _ h Q hw
  · have hw := hw.2 c2
    exact G_vreturn rfl dX5_step_7 ⟨rfl, wp_ret hw⟩
set_option maxHeartbeats 4000000 in
set_option maxRecDepth 100000 in
theorem s_X5_open {Γ : GX} (hs : SF Γ) {N : Nat} (l0 : Nat) (h : PH) (Q : Unit → PH → Prop) (hw : wp (f_X5_open N l0 h) Q) : Spec Γ yX5_open cX5_open 1 none (6, 0, 0) [.ref l0] h (q_u Q) := by
  refine Spec.of (by decide) (Nat.le_of_ble_eq_true rfl) [some (.ref l0)] rfl ?_
  unfold f_X5_open at hw
  refine G_aload_n dX5_open_0 rfl ?_
  refine G_iconst (v := (0 : Int32)) dX5_open_1 (by decide) ?_
  obtain ⟨c1, hw⟩ := wp_ck hw
  refine G_putI fl_X5_next w_171 dX5_open_2 c1 ?_
  refine G.nmh fun h2 eh2 => ?_
  have hw := wp_bd hw h2 eh2
  refine G_aload_n dX5_open_5 rfl ?_
  refine G_iconst (v := (0 : Int32)) dX5_open_6 (by decide) ?_
  obtain ⟨c3, hw⟩ := wp_ck hw
  refine G_putI fl_X5_fault w_180 dX5_open_7 c3 ?_
  refine G.nmh fun h4 eh4 => ?_
  have hw := wp_bd hw h4 eh4
  refine G_aload_n dX5_open_10 rfl ?_
  obtain ⟨c7, hw⟩ := wp_ck hw
  refine G_callV (As := []) (s_X5_step hs l0 h4 _ (wp_cl hw)) ca_X5_step w_586 w_587 (ci := 5) rfl (by decide) w_585 c7 (Nat.le_of_ble_eq_true rfl) (Nat.le_of_ble_eq_true rfl) rfl (Nat.le_of_ble_eq_true rfl) (Nat.le_of_ble_eq_true rfl) (Nat.le_of_ble_eq_true rfl) dX5_open_11 rfl (fun v h6 hq => ?_)
  obtain ⟨rfl, hw⟩ := hq
  refine G.cse (cs' := (0, 0)) rfl ?_
  show GZ _ _ _ _ _ _ _ 14 _ [] _ _
  exact G_vreturn rfl dX5_open_14 ⟨rfl, wp_ret hw⟩
set_option maxHeartbeats 4000000 in
set_option maxRecDepth 100000 in
theorem s_X5_isOver {Γ : GX} (hs : SF Γ) {N : Nat} (l0 : Nat) (h : PH) (Q : Int32 → PH → Prop) (hw : wp (f_X5_isOver N l0 h) Q) : Spec Γ yX5_isOver cX5_isOver 1 (some .boolean) (1, 0, 0) [.ref l0] h (q_i Q) := by
  refine Spec.of (by decide) (Nat.le_of_ble_eq_true rfl) [some (.ref l0)] rfl ?_
  unfold f_X5_isOver at hw
  refine G_aload_n dX5_isOver_0 rfl ?_
  obtain ⟨c1, hw⟩ := wp_ck hw
  refine G_getI fl_X5_fault w_180 dX5_isOver_1 c1 ?_
  have hw := wp_if hw
  refine G_if_ne (tgt := 15) dX5_isOver_4 rfl (fun c2 => ?_) (fun c2 => ?_)
  · have hw := hw.2 c2
    refine G_iconst (v := (1 : Int32)) dX5_isOver_15 (by decide) ?_
    refine G_goto (tgt := 20) dX5_isOver_16 rfl ?_
    exact G_zreturn rfl dX5_isOver_20 rfl ⟨_, rfl, wp_ret hw⟩
  · have hw := hw.1 c2
    refine G_aload_n dX5_isOver_7 rfl ?_
    refine G_getI fl_X5_kind w_172 dX5_isOver_8 c1 ?_
    refine G_iconst (v := (1 : Int32)) dX5_isOver_11 (by decide) ?_
    have hw := wp_if hw
    refine G_icmp_ne (tgt := 19) dX5_isOver_12 rfl (fun c3 => ?_) (fun c3 => ?_)
    · have hw := hw.2 c3
      refine G_iconst (v := (0 : Int32)) dX5_isOver_19 (by decide) ?_
      exact G_zreturn rfl dX5_isOver_20 rfl ⟨_, rfl, wp_ret hw⟩
    · have hw := hw.1 c3
      refine G_iconst (v := (1 : Int32)) dX5_isOver_15 (by decide) ?_
      refine G_goto (tgt := 20) dX5_isOver_16 rfl ?_
      exact G_zreturn rfl dX5_isOver_20 rfl ⟨_, rfl, wp_ret hw⟩
set_option maxHeartbeats 4000000 in
set_option maxRecDepth 100000 in
theorem s_X5_isAt {Γ : GX} (hs : SF Γ) {N : Nat} (l0 : Nat) (l1 : Nat) (h : PH) (Q : Int32 → PH → Prop) (hw : wp (f_X5_isAt N l0 l1 h) Q) : Spec Γ yX5_isAt cX5_isAt 2 (some .boolean) (1, 0, 0) [.ref l0, .ref l1] h (q_i Q) := by
  refine Spec.of (by decide) (Nat.le_of_ble_eq_true rfl) [some (.ref l0), some (.ref l1)] rfl ?_
  unfold f_X5_isAt at hw
  refine G_aload_n dX5_isAt_0 rfl ?_
  obtain ⟨c1, hw⟩ := wp_ck hw
  refine G_getI fl_X5_fault w_180 dX5_isAt_1 c1 ?_
  have hw := wp_if hw
  refine G_if_ne (tgt := 27) dX5_isAt_4 rfl (fun c2 => ?_) (fun c2 => ?_)
  · have hw := hw.2 c2
    refine G_iconst (v := (0 : Int32)) dX5_isAt_27 (by decide) ?_
    exact G_zreturn rfl dX5_isAt_28 rfl ⟨_, rfl, wp_ret hw⟩
  · have hw := hw.1 c2
    refine G_aload_n dX5_isAt_7 rfl ?_
    refine G_getI fl_X5_kind w_172 dX5_isAt_8 c1 ?_
    refine G_iconst (v := (2 : Int32)) dX5_isAt_11 (by decide) ?_
    have hw := wp_if hw
    refine G_icmp_ne (tgt := 27) dX5_isAt_12 rfl (fun c3 => ?_) (fun c3 => ?_)
    · have hw := hw.2 c3
      refine G_iconst (v := (0 : Int32)) dX5_isAt_27 (by decide) ?_
      exact G_zreturn rfl dX5_isAt_28 rfl ⟨_, rfl, wp_ret hw⟩
    · have hw := hw.1 c3
      refine G_aload_n dX5_isAt_15 rfl ?_
      refine G_getR fl_X5_word w_179 dX5_isAt_16 c1 ?_
      refine G_aload_n dX5_isAt_19 rfl ?_
      have hw := wp_if hw
      refine G_acmp_ne (rx := (hR h l0 7)) (ry := some l1) (tgt := 27) dX5_isAt_20 rfl (fun c4 => ?_) (fun c4 => ?_)
      · have hw := hw.2 c4
        refine G_iconst (v := (0 : Int32)) dX5_isAt_27 (by decide) ?_
        exact G_zreturn rfl dX5_isAt_28 rfl ⟨_, rfl, wp_ret hw⟩
      · have hw := hw.1 c4
        refine G_iconst (v := (1 : Int32)) dX5_isAt_23 (by decide) ?_
        refine G_goto (tgt := 28) dX5_isAt_24 rfl ?_
        exact G_zreturn rfl dX5_isAt_28 rfl ⟨_, rfl, wp_ret hw⟩
set_option maxHeartbeats 4000000 in
set_option maxRecDepth 100000 in
theorem s_X5_fail {Γ : GX} (hs : SF Γ) {N : Nat} (l0 : Nat) (l1 : Int32) (h : PH) (Q : Unit → PH → Prop) (hw : wp (f_X5_fail N l0 l1 h) Q) : Spec Γ yX5_fail cX5_fail 2 none (1, 0, 0) [.ref l0, .int l1] h (q_u Q) := by
  refine Spec.of (by decide) (Nat.le_of_ble_eq_true rfl) [some (.ref l0), some (.int l1)] rfl ?_
  unfold f_X5_fail at hw
  refine G_aload_n dX5_fail_0 rfl ?_
  obtain ⟨c1, hw⟩ := wp_ck hw
  refine G_getI fl_X5_fault w_180 dX5_fail_1 c1 ?_
  have hw := wp_if hw
  refine G_if_ne (tgt := 20) dX5_fail_4 rfl (fun c2 => ?_) (fun c2 => ?_)
  · have hw := hw.2 c2
    exact G_vreturn rfl dX5_fail_20 ⟨rfl, wp_ret hw⟩
  · have hw := hw.1 c2
    refine G_aload_n dX5_fail_7 rfl ?_
    refine G_iload_n dX5_fail_8 rfl ?_
    refine G_bipush (v := (16 : Int32)) dX5_fail_9 (by decide) ?_
    refine G_aload_n dX5_fail_11 rfl ?_
    refine G_getI fl_X5_place w_173 dX5_fail_12 c1 ?_
    refine G_imul dX5_fail_15 ?_
    refine G_iadd dX5_fail_16 ?_
    refine G_putI fl_X5_fault w_180 dX5_fail_17 c1 ?_
    refine G.nmh fun h3 eh3 => ?_
    have hw := wp_bd hw h3 eh3
    exact G_vreturn rfl dX5_fail_20 ⟨rfl, wp_ret hw⟩
set_option maxHeartbeats 4000000 in
set_option maxRecDepth 100000 in
theorem f_X7_oneMore_23_ok {Γ : GX} (hs : SF Γ) {N : Nat} (l0 : Nat) (l3 : Int32) (h : PH) (Q : Int32 → PH → Prop) (hw : wp (f_X7_oneMore_23 N l0 l3 h) Q) : G Γ yX7_oneMore cX7_oneMore 4 (some .int) (6, 0, 0) 23 [some (.ref l0), none, none, some (.int l3)] [] h (0, 0) (q_i Q) := by
  unfold f_X7_oneMore_23 at hw
  refine G_aload_n dX7_oneMore_23 rfl ?_
  obtain ⟨c1, hw⟩ := wp_ck hw
  refine G_getR fl_X7_tape w_561 dX7_oneMore_24 c1 ?_
  obtain ⟨a2, ea2, hw⟩ := wp_rq hw
  refine G.sure ea2 ?_
  obtain ⟨c5, hw⟩ := wp_ck hw
  refine G_callV (As := []) (s_X5_step hs a2 h _ (wp_cl hw)) ca_X5_step w_586 w_587 (ci := 5) rfl (by decide) w_718 c5 (Nat.le_of_ble_eq_true rfl) (Nat.le_of_ble_eq_true rfl) rfl (Nat.le_of_ble_eq_true rfl) (Nat.le_of_ble_eq_true rfl) (Nat.le_of_ble_eq_true rfl) dX7_oneMore_27 rfl (fun v h4 hq => ?_)
  obtain ⟨rfl, hw⟩ := hq
  refine G.cse (cs' := (0, 0)) rfl ?_
  show GZ _ _ _ _ _ _ _ 30 _ [] _ _
  refine G_iload_n dX7_oneMore_30 rfl ?_
  exact G_ireturn rfl dX7_oneMore_31 ⟨_, rfl, wp_ret hw⟩
set_option maxHeartbeats 4000000 in
set_option maxRecDepth 100000 in
theorem s_X7_oneMore {Γ : GX} (hs : SF Γ) {N : Nat} (l0 : Nat) (l1 : Int32) (l2 : Int32) (h : PH) (Q : Int32 → PH → Prop) (hw : wp (f_X7_oneMore N l0 l1 l2 h) Q) : Spec Γ yX7_oneMore cX7_oneMore 4 (some .int) (6, 0, 0) [.ref l0, .int l1, .int l2] h (q_i Q) := by
  refine Spec.of (by decide) (Nat.le_of_ble_eq_true rfl) [some (.ref l0), some (.int l1), some (.int l2), none] rfl ?_
  unfold f_X7_oneMore at hw
  refine G_aload_n dX7_oneMore_0 rfl ?_
  obtain ⟨c1, hw⟩ := wp_ck hw
  refine G_getR fl_X7_valley w_562 dX7_oneMore_1 c1 ?_
  obtain ⟨a2, ea2, hw⟩ := wp_rq hw
  refine G.sure ea2 ?_
  obtain ⟨c3, hw⟩ := wp_ck hw
  refine G_getNR fl_X6_many w_428 dX7_oneMore_4 c3 ?_
  obtain ⟨a4, ea4, hw⟩ := wp_rq hw
  refine G.sure ea4 ?_
  refine G_iload_n dX7_oneMore_7 rfl ?_
  obtain ⟨c5, hw⟩ := wp_ck hw
  obtain ⟨c6, hw⟩ := wp_ck hw
  refine G_iaload dX7_oneMore_8 c5 c6 ?_
  refine G.topi fun v7 ev7 => ?_
  have hw := wp_bd hw v7 ev7
  refine G_istore_n (lv' := [some (.ref l0), some (.int l1), some (.int l2), some (.int v7)]) dX7_oneMore_9 (Nat.le_of_ble_eq_true rfl) rfl ?_
  refine G_iload_n dX7_oneMore_10 rfl ?_
  refine G_iload_n dX7_oneMore_11 rfl ?_
  have hw := wp_if hw
  refine G_icmp_lt (tgt := 23) dX7_oneMore_12 rfl (fun c8 => ?_) (fun c8 => ?_)
  · have hw := hw.1 c8
    refine G.less [some (.ref l0), none, none, some (.int v7)] ⟨rfl, ⟨rfl, trivial⟩⟩ ?_
    exact f_X7_oneMore_23_ok hs _ _ h Q hw
  · have hw := hw.2 c8
    refine G_aload_n dX7_oneMore_15 rfl ?_
    refine G_getR fl_X7_tape w_561 dX7_oneMore_16 c1 ?_
    obtain ⟨a9, ea9, hw⟩ := wp_rq hw
    refine G.sure ea9 ?_
    refine G_iconst (v := (5 : Int32)) dX7_oneMore_19 (by decide) ?_
    obtain ⟨c12, hw⟩ := wp_ck hw
    refine G_callV (As := [.int (5 : Int32)]) (s_X5_fail hs a9 (5 : Int32) h _ (wp_cl hw)) ca_X5_fail w_715 w_716 (ci := 5) rfl (by decide) w_714 c12 (Nat.le_of_ble_eq_true rfl) (Nat.le_of_ble_eq_true rfl) rfl (Nat.le_of_ble_eq_true rfl) (Nat.le_of_ble_eq_true rfl) (Nat.le_of_ble_eq_true rfl) dX7_oneMore_20 rfl (fun v h11 hq => ?_)
    obtain ⟨rfl, hw⟩ := hq
    refine G.cse (cs' := (0, 0)) rfl ?_
    show GZ _ _ _ _ _ _ _ 23 _ [] _ _
    refine G.less [some (.ref l0), none, none, some (.int v7)] ⟨rfl, ⟨rfl, trivial⟩⟩ ?_
    exact f_X7_oneMore_23_ok hs _ _ h11 Q hw
set_option maxHeartbeats 4000000 in
set_option maxRecDepth 100000 in
theorem s_X5_isAtName {Γ : GX} (hs : SF Γ) {N : Nat} (l0 : Nat) (h : PH) (Q : Int32 → PH → Prop) (hw : wp (f_X5_isAtName N l0 h) Q) : Spec Γ yX5_isAtName cX5_isAtName 1 (some .boolean) (1, 0, 0) [.ref l0] h (q_i Q) := by
  refine Spec.of (by decide) (Nat.le_of_ble_eq_true rfl) [some (.ref l0)] rfl ?_
  unfold f_X5_isAtName at hw
  refine G_aload_n dX5_isAtName_0 rfl ?_
  obtain ⟨c1, hw⟩ := wp_ck hw
  refine G_getI fl_X5_fault w_180 dX5_isAtName_1 c1 ?_
  have hw := wp_if hw
  refine G_if_ne (tgt := 36) dX5_isAtName_4 rfl (fun c2 => ?_) (fun c2 => ?_)
  · have hw := hw.2 c2
    refine G_iconst (v := (0 : Int32)) dX5_isAtName_36 (by decide) ?_
    exact G_zreturn rfl dX5_isAtName_37 rfl ⟨_, rfl, wp_ret hw⟩
  · have hw := hw.1 c2
    refine G_aload_n dX5_isAtName_7 rfl ?_
    refine G_getI fl_X5_kind w_172 dX5_isAtName_8 c1 ?_
    refine G_iconst (v := (2 : Int32)) dX5_isAtName_11 (by decide) ?_
    have hw := wp_if hw
    refine G_icmp_ne (tgt := 36) dX5_isAtName_12 rfl (fun c3 => ?_) (fun c3 => ?_)
    · have hw := hw.2 c3
      refine G_iconst (v := (0 : Int32)) dX5_isAtName_36 (by decide) ?_
      exact G_zreturn rfl dX5_isAtName_37 rfl ⟨_, rfl, wp_ret hw⟩
    · have hw := hw.1 c3
      refine G_aload_n dX5_isAtName_15 rfl ?_
      refine G_getR fl_X5_word w_179 dX5_isAtName_16 c1 ?_
      have hw := wp_if hw
      refine G_ifnull (x := (hR h l0 7)) (tgt := 32) dX5_isAtName_19 rfl (fun c4 => ?_) (fun c4 => ?_)
      · have hw := hw.1 c4
        refine G_iconst (v := (1 : Int32)) dX5_isAtName_32 (by decide) ?_
        refine G_goto (tgt := 37) dX5_isAtName_33 rfl ?_
        exact G_zreturn rfl dX5_isAtName_37 rfl ⟨_, rfl, wp_ret hw⟩
      · have hw := hw.2 c4
        refine G_aload_n dX5_isAtName_22 rfl ?_
        refine G_getR fl_X5_word w_179 dX5_isAtName_23 c1 ?_
        obtain ⟨a5, ea5, hw⟩ := wp_rq hw
        refine G.sure ea5 ?_
        obtain ⟨i6, ei6, hw⟩ := wp_rq hw
        refine G_wkept hs ei6 w_2099 dX5_isAtName_26 ?_
        have hw := wp_if hw
        refine G_if_ne (tgt := 36) dX5_isAtName_29 rfl (fun c7 => ?_) (fun c7 => ?_)
        · have hw := hw.2 c7
          refine G_iconst (v := (0 : Int32)) dX5_isAtName_36 (by decide) ?_
          exact G_zreturn rfl dX5_isAtName_37 rfl ⟨_, rfl, wp_ret hw⟩
        · have hw := hw.1 c7
          refine G_iconst (v := (1 : Int32)) dX5_isAtName_32 (by decide) ?_
          refine G_goto (tgt := 37) dX5_isAtName_33 rfl ?_
          exact G_zreturn rfl dX5_isAtName_37 rfl ⟨_, rfl, wp_ret hw⟩
set_option maxHeartbeats 4000000 in
set_option maxRecDepth 100000 in
theorem f_X6_find_3_bok {Γ : GX} (hs : SF Γ) {N : Nat} {K_3 : Nat → Int32 → Int64 → Int32 → PH → Option (Int32 × PH)} (hK_3 : ∀ (l0 : Nat) (l1 : Int32) (l2 : Int64) (l4 : Int32) (h : PH) (Q : Int32 → PH → Prop), wp (K_3 l0 l1 l2 l4 h) Q → G Γ yX6_find cX6_find 5 (some .int) (1, 0, 0) 3 [some (.ref l0), some (.int l1), some (.long l2), none, some (.int l4)] [] h (0, 0) (q_i Q)) (l0 : Nat) (l1 : Int32) (l2 : Int64) (l4 : Int32) (h : PH) (Q : Int32 → PH → Prop) (hw : wp (f_X6_find_3_b N K_3 l0 l1 l2 l4 h) Q) : G Γ yX6_find cX6_find 5 (some .int) (1, 0, 0) 3 [some (.ref l0), some (.int l1), some (.long l2), none, some (.int l4)] [] h (0, 0) (q_i Q) := by
  unfold f_X6_find_3_b at hw
  refine G_iload dX6_find_3 rfl ?_
  refine G_aload_n dX6_find_5 rfl ?_
  obtain ⟨c1, hw⟩ := wp_ck hw
  refine G_getR fl_X6_many w_426 dX6_find_6 c1 ?_
  obtain ⟨a2, ea2, hw⟩ := wp_rq hw
  refine G.sure ea2 ?_
  refine G_iload_n dX6_find_9 rfl ?_
  obtain ⟨c3, hw⟩ := wp_ck hw
  obtain ⟨c4, hw⟩ := wp_ck hw
  refine G_iaload dX6_find_10 c3 c4 ?_
  have hw := wp_if hw
  refine G_icmp_ge (tgt := 40) dX6_find_11 rfl (fun c5 => ?_) (fun c5 => ?_)
  · have hw := hw.1 c5
    refine G_iconst (v := (-1 : Int32)) dX6_find_40 (by decide) ?_
    exact G_ireturn rfl dX6_find_41 ⟨_, rfl, wp_ret hw⟩
  · have hw := hw.2 c5
    refine G_aload_n dX6_find_14 rfl ?_
    refine G_getR fl_X6_names w_432 dX6_find_15 c1 ?_
    obtain ⟨a6, ea6, hw⟩ := wp_rq hw
    refine G.sure ea6 ?_
    refine G_iload_n dX6_find_18 rfl ?_
    refine G_bipush (v := (6 : Int32)) dX6_find_19 (by decide) ?_
    refine G_imul dX6_find_21 ?_
    refine G_iload dX6_find_22 rfl ?_
    refine G_iadd dX6_find_24 ?_
    obtain ⟨c7, hw⟩ := wp_ck hw
    obtain ⟨c8, hw⟩ := wp_ck hw
    refine G_laload dX6_find_25 c7 c8 ?_
    refine G_lload_n dX6_find_26 rfl ?_
    refine G_lcmp dX6_find_27 ?_
    have hw := wp_if hw
    refine G_if_ne (tgt := 34) dX6_find_28 rfl (fun c9 => ?_) (fun c9 => ?_)
    · have hw := hw.2 c9
      obtain ⟨v10, ev10⟩ : ∃ z : Int32, z = l4 + (1 : Int32) := ⟨_, rfl⟩
      have hw := wp_bd hw v10 ev10
      refine G_iinc (v := v10) (lv' := [some (.ref l0), some (.int l1), some (.long l2), none, some (.int v10)]) dX6_find_34 rfl (by rw [ev10]; rfl) (Nat.le_of_ble_eq_true rfl) rfl ?_
      refine G_goto (tgt := 3) dX6_find_37 rfl ?_
      refine G.less [some (.ref l0), some (.int l1), some (.long l2), none, some (.int v10)] ⟨rfl, ⟨rfl, ⟨rfl, ⟨rfl, trivial⟩⟩⟩⟩ ?_
      exact hK_3 _ _ _ _ h Q hw
    · have hw := hw.1 c9
      refine G_iload dX6_find_31 rfl ?_
      exact G_ireturn rfl dX6_find_33 ⟨_, rfl, wp_ret hw⟩
theorem f_X6_find_3_ok {Γ : GX} (hs : SF Γ) {N : Nat} : ∀ (n : Nat) (l0 : Nat) (l1 : Int32) (l2 : Int64) (l4 : Int32) (h : PH) (Q : Int32 → PH → Prop), wp (f_X6_find_3 N n l0 l1 l2 l4 h) Q → G Γ yX6_find cX6_find 5 (some .int) (1, 0, 0) 3 [some (.ref l0), some (.int l1), some (.long l2), none, some (.int l4)] [] h (0, 0) (q_i Q)
  | 0, _, _, _, _, _, Q, hw => (wp_no hw).elim
  | n + 1, l0, l1, l2, l4, h, Q, hw => f_X6_find_3_bok (N := N) hs (f_X6_find_3_ok (N := N) hs n) l0 l1 l2 l4 h Q hw
set_option maxHeartbeats 4000000 in
set_option maxRecDepth 100000 in
theorem s_X6_find {Γ : GX} (hs : SF Γ) {N : Nat} (l0 : Nat) (l1 : Int32) (l2 : Int64) (h : PH) (Q : Int32 → PH → Prop) (hw : wp (f_X6_find N l0 l1 l2 h) Q) : Spec Γ yX6_find cX6_find 5 (some .int) (1, 0, 0) [.ref l0, .int l1, .long l2] h (q_i Q) := by
  refine Spec.of (by decide) (Nat.le_of_ble_eq_true rfl) [some (.ref l0), some (.int l1), some (.long l2), none, none] rfl ?_
  unfold f_X6_find at hw
  refine G_iconst (v := (0 : Int32)) dX6_find_0 (by decide) ?_
  refine G_istore (lv' := [some (.ref l0), some (.int l1), some (.long l2), none, some (.int (0 : Int32))]) dX6_find_1 (Nat.le_of_ble_eq_true rfl) rfl ?_
  refine G.less [some (.ref l0), some (.int l1), some (.long l2), none, some (.int (0 : Int32))] ⟨rfl, ⟨rfl, ⟨rfl, ⟨rfl, trivial⟩⟩⟩⟩ ?_
  exact f_X6_find_3_ok hs N _ _ _ _ h Q hw
set_option maxHeartbeats 4000000 in
set_option maxRecDepth 100000 in
theorem f_X6_knows_2_bok {Γ : GX} (hs : SF Γ) {N : Nat} {K_2 : Nat → Int64 → Int32 → PH → Option (Int32 × PH)} (hK_2 : ∀ (l0 : Nat) (l1 : Int64) (l3 : Int32) (h : PH) (Q : Int32 → PH → Prop), wp (K_2 l0 l1 l3 h) Q → G Γ yX6_knows cX6_knows 4 (some .boolean) (2, 0, 0) 2 [some (.ref l0), some (.long l1), none, some (.int l3)] [] h (0, 0) (q_i Q)) (l0 : Nat) (l1 : Int64) (l3 : Int32) (h : PH) (Q : Int32 → PH → Prop) (hw : wp (f_X6_knows_2_b N K_2 l0 l1 l3 h) Q) : G Γ yX6_knows cX6_knows 4 (some .boolean) (2, 0, 0) 2 [some (.ref l0), some (.long l1), none, some (.int l3)] [] h (0, 0) (q_i Q) := by
  unfold f_X6_knows_2_b at hw
  refine G_iload_n dX6_knows_2 rfl ?_
  refine G_iconst (v := (5 : Int32)) dX6_knows_3 (by decide) ?_
  have hw := wp_if hw
  refine G_icmp_ge (tgt := 25) dX6_knows_4 rfl (fun c1 => ?_) (fun c1 => ?_)
  · have hw := hw.1 c1
    refine G_iconst (v := (0 : Int32)) dX6_knows_25 (by decide) ?_
    exact G_zreturn rfl dX6_knows_26 rfl ⟨_, rfl, wp_ret hw⟩
  · have hw := hw.2 c1
    refine G_aload_n dX6_knows_7 rfl ?_
    refine G_iload_n dX6_knows_8 rfl ?_
    refine G_lload_n dX6_knows_9 rfl ?_
    obtain ⟨c4, hw⟩ := wp_ck hw
    refine G_callV (As := [.int l3, .long l1]) (s_X6_find hs l0 l3 l1 h _ (wp_cl hw)) ca_X6_find w_732 w_733 (ci := 6) rfl (by decide) w_731 c4 (Nat.le_of_ble_eq_true rfl) (Nat.le_of_ble_eq_true rfl) rfl (Nat.le_of_ble_eq_true rfl) (Nat.le_of_ble_eq_true rfl) (Nat.le_of_ble_eq_true rfl) dX6_knows_10 rfl (fun v h3 hq => ?_)
    obtain ⟨r2, rfl, hw⟩ := hq
    refine G.cse (cs' := (0, 0)) rfl ?_
    show GZ _ _ _ _ _ _ _ 13 _ (.int r2 :: []) _ _
    refine G_iconst (v := (-1 : Int32)) dX6_knows_13 (by decide) ?_
    have hw := wp_if hw
    refine G_icmp_eq (tgt := 19) dX6_knows_14 rfl (fun c5 => ?_) (fun c5 => ?_)
    · have hw := hw.1 c5
      obtain ⟨v6, ev6⟩ : ∃ z : Int32, z = l3 + (1 : Int32) := ⟨_, rfl⟩
      have hw := wp_bd hw v6 ev6
      refine G_iinc (v := v6) (lv' := [some (.ref l0), some (.long l1), none, some (.int v6)]) dX6_knows_19 rfl (by rw [ev6]; rfl) (Nat.le_of_ble_eq_true rfl) rfl ?_
      refine G_goto (tgt := 2) dX6_knows_22 rfl ?_
      refine G.less [some (.ref l0), some (.long l1), none, some (.int v6)] ⟨rfl, ⟨rfl, ⟨rfl, trivial⟩⟩⟩ ?_
      exact hK_2 _ _ _ h3 Q hw
    · have hw := hw.2 c5
      refine G_iconst (v := (1 : Int32)) dX6_knows_17 (by decide) ?_
      exact G_zreturn rfl dX6_knows_18 rfl ⟨_, rfl, wp_ret hw⟩
theorem f_X6_knows_2_ok {Γ : GX} (hs : SF Γ) {N : Nat} : ∀ (n : Nat) (l0 : Nat) (l1 : Int64) (l3 : Int32) (h : PH) (Q : Int32 → PH → Prop), wp (f_X6_knows_2 N n l0 l1 l3 h) Q → G Γ yX6_knows cX6_knows 4 (some .boolean) (2, 0, 0) 2 [some (.ref l0), some (.long l1), none, some (.int l3)] [] h (0, 0) (q_i Q)
  | 0, _, _, _, _, Q, hw => (wp_no hw).elim
  | n + 1, l0, l1, l3, h, Q, hw => f_X6_knows_2_bok (N := N) hs (f_X6_knows_2_ok (N := N) hs n) l0 l1 l3 h Q hw
set_option maxHeartbeats 4000000 in
set_option maxRecDepth 100000 in
theorem s_X6_knows {Γ : GX} (hs : SF Γ) {N : Nat} (l0 : Nat) (l1 : Int64) (h : PH) (Q : Int32 → PH → Prop) (hw : wp (f_X6_knows N l0 l1 h) Q) : Spec Γ yX6_knows cX6_knows 4 (some .boolean) (2, 0, 0) [.ref l0, .long l1] h (q_i Q) := by
  refine Spec.of (by decide) (Nat.le_of_ble_eq_true rfl) [some (.ref l0), some (.long l1), none, none] rfl ?_
  unfold f_X6_knows at hw
  refine G_iconst (v := (0 : Int32)) dX6_knows_0 (by decide) ?_
  refine G_istore_n (lv' := [some (.ref l0), some (.long l1), none, some (.int (0 : Int32))]) dX6_knows_1 (Nat.le_of_ble_eq_true rfl) rfl ?_
  refine G.less [some (.ref l0), some (.long l1), none, some (.int (0 : Int32))] ⟨rfl, ⟨rfl, ⟨rfl, trivial⟩⟩⟩ ?_
  exact f_X6_knows_2_ok hs N _ _ _ h Q hw
set_option maxHeartbeats 4000000 in
set_option maxRecDepth 100000 in
theorem f_X7_newName_46_ok {Γ : GX} (hs : SF Γ) {N : Nat} (l0 : Nat) (h : PH) (Q : Int64 → PH → Prop) (hw : wp (f_X7_newName_46 N l0 h) Q) : G Γ yX7_newName cX7_newName 3 (some .long) (6, 0, 0) 46 [some (.ref l0), none, none] [] h (0, 0) (q_l Q) := by
  unfold f_X7_newName_46 at hw
  refine G_aload_n dX7_newName_46 rfl ?_
  obtain ⟨c1, hw⟩ := wp_ck hw
  refine G_getR fl_X7_tape w_561 dX7_newName_47 c1 ?_
  obtain ⟨a2, ea2, hw⟩ := wp_rq hw
  refine G.sure ea2 ?_
  obtain ⟨c3, hw⟩ := wp_ck hw
  refine G_getNJ fl_X5_name w_177 dX7_newName_50 c3 ?_
  refine G.topl fun v4 ev4 => ?_
  have hw := wp_bd hw v4 ev4
  refine G_lstore_n (lv' := [some (.ref l0), some (.long v4), none]) dX7_newName_53 (Nat.le_of_ble_eq_true rfl) rfl ?_
  refine G_aload_n dX7_newName_54 rfl ?_
  refine G_getR fl_X7_tape w_561 dX7_newName_55 c1 ?_
  obtain ⟨a5, ea5, hw⟩ := wp_rq hw
  refine G.sure ea5 ?_
  obtain ⟨c8, hw⟩ := wp_ck hw
  refine G_callV (As := []) (s_X5_step hs a5 h _ (wp_cl hw)) ca_X5_step w_586 w_587 (ci := 5) rfl (by decide) w_718 c8 (Nat.le_of_ble_eq_true rfl) (Nat.le_of_ble_eq_true rfl) rfl (Nat.le_of_ble_eq_true rfl) (Nat.le_of_ble_eq_true rfl) (Nat.le_of_ble_eq_true rfl) dX7_newName_58 rfl (fun v h7 hq => ?_)
  obtain ⟨rfl, hw⟩ := hq
  refine G.cse (cs' := (0, 0)) rfl ?_
  show GZ _ _ _ _ _ _ _ 61 _ [] _ _
  refine G_lload_n dX7_newName_61 rfl ?_
  exact G_lreturn rfl dX7_newName_62 ⟨_, rfl, wp_ret hw⟩
set_option maxHeartbeats 4000000 in
set_option maxRecDepth 100000 in
theorem s_X7_newName {Γ : GX} (hs : SF Γ) {N : Nat} (l0 : Nat) (h : PH) (Q : Int64 → PH → Prop) (hw : wp (f_X7_newName N l0 h) Q) : Spec Γ yX7_newName cX7_newName 3 (some .long) (6, 0, 0) [.ref l0] h (q_l Q) := by
  refine Spec.of (by decide) (Nat.le_of_ble_eq_true rfl) [some (.ref l0), none, none] rfl ?_
  unfold f_X7_newName at hw
  refine G_aload_n dX7_newName_0 rfl ?_
  obtain ⟨c1, hw⟩ := wp_ck hw
  refine G_getR fl_X7_tape w_561 dX7_newName_1 c1 ?_
  obtain ⟨a2, ea2, hw⟩ := wp_rq hw
  refine G.sure ea2 ?_
  obtain ⟨c5, hw⟩ := wp_ck hw
  refine G_callV (As := []) (s_X5_isAtName hs a2 h _ (wp_cl hw)) ca_X5_isAtName w_724 w_725 (ci := 5) rfl (by decide) w_723 c5 (Nat.le_of_ble_eq_true rfl) (Nat.le_of_ble_eq_true rfl) rfl (Nat.le_of_ble_eq_true rfl) (Nat.le_of_ble_eq_true rfl) (Nat.le_of_ble_eq_true rfl) dX7_newName_4 rfl (fun v h4 hq => ?_)
  obtain ⟨r3, rfl, hw⟩ := hq
  refine G.cse (cs' := (0, 0)) rfl ?_
  show GZ _ _ _ _ _ _ _ 7 _ (.int r3 :: []) _ _
  have hw := wp_if hw
  refine G_if_ne (tgt := 21) dX7_newName_7 rfl (fun c6 => ?_) (fun c6 => ?_)
  · have hw := hw.2 c6
    refine G_aload_n dX7_newName_21 rfl ?_
    obtain ⟨c7, hw⟩ := wp_ck hw
    refine G_getR fl_X7_valley w_562 dX7_newName_22 c7 ?_
    obtain ⟨a8, ea8, hw⟩ := wp_rq hw
    refine G.sure ea8 ?_
    refine G_aload_n dX7_newName_25 rfl ?_
    refine G_getR fl_X7_tape w_561 dX7_newName_26 c7 ?_
    obtain ⟨a9, ea9, hw⟩ := wp_rq hw
    refine G.sure ea9 ?_
    obtain ⟨c10, hw⟩ := wp_ck hw
    refine G_getNJ fl_X5_name w_177 dX7_newName_29 c10 ?_
    obtain ⟨c13, hw⟩ := wp_ck hw
    refine G_callV (As := [.long (hJ h4 a9 6)]) (s_X6_knows hs a8 (hJ h4 a9 6) h4 _ (wp_cl hw)) ca_X6_knows w_728 w_729 (ci := 6) rfl (by decide) w_727 c13 (Nat.le_of_ble_eq_true rfl) (Nat.le_of_ble_eq_true rfl) rfl (Nat.le_of_ble_eq_true rfl) (Nat.le_of_ble_eq_true rfl) (Nat.le_of_ble_eq_true rfl) dX7_newName_32 rfl (fun v h12 hq => ?_)
    obtain ⟨r11, rfl, hw⟩ := hq
    refine G.cse (cs' := (0, 0)) rfl ?_
    show GZ _ _ _ _ _ _ _ 35 _ (.int r11 :: []) _ _
    have hw := wp_if hw
    refine G_if_eq (tgt := 46) dX7_newName_35 rfl (fun c14 => ?_) (fun c14 => ?_)
    · have hw := hw.1 c14
      refine G.less [some (.ref l0), none, none] ⟨rfl, trivial⟩ ?_
      exact f_X7_newName_46_ok hs _ h12 Q hw
    · have hw := hw.2 c14
      refine G_aload_n dX7_newName_38 rfl ?_
      obtain ⟨c15, hw⟩ := wp_ck hw
      refine G_getR fl_X7_tape w_561 dX7_newName_39 c15 ?_
      obtain ⟨a16, ea16, hw⟩ := wp_rq hw
      refine G.sure ea16 ?_
      refine G_iconst (v := (3 : Int32)) dX7_newName_42 (by decide) ?_
      obtain ⟨c19, hw⟩ := wp_ck hw
      refine G_callV (As := [.int (3 : Int32)]) (s_X5_fail hs a16 (3 : Int32) h12 _ (wp_cl hw)) ca_X5_fail w_715 w_716 (ci := 5) rfl (by decide) w_714 c19 (Nat.le_of_ble_eq_true rfl) (Nat.le_of_ble_eq_true rfl) rfl (Nat.le_of_ble_eq_true rfl) (Nat.le_of_ble_eq_true rfl) (Nat.le_of_ble_eq_true rfl) dX7_newName_43 rfl (fun v h18 hq => ?_)
      obtain ⟨rfl, hw⟩ := hq
      refine G.cse (cs' := (0, 0)) rfl ?_
      show GZ _ _ _ _ _ _ _ 46 _ [] _ _
      refine G.less [some (.ref l0), none, none] ⟨rfl, trivial⟩ ?_
      exact f_X7_newName_46_ok hs _ h18 Q hw
  · have hw := hw.1 c6
    refine G_aload_n dX7_newName_10 rfl ?_
    obtain ⟨c20, hw⟩ := wp_ck hw
    refine G_getR fl_X7_tape w_561 dX7_newName_11 c20 ?_
    obtain ⟨a21, ea21, hw⟩ := wp_rq hw
    refine G.sure ea21 ?_
    refine G_iconst (v := (1 : Int32)) dX7_newName_14 (by decide) ?_
    obtain ⟨c24, hw⟩ := wp_ck hw
    refine G_callV (As := [.int (1 : Int32)]) (s_X5_fail hs a21 (1 : Int32) h4 _ (wp_cl hw)) ca_X5_fail w_715 w_716 (ci := 5) rfl (by decide) w_714 c24 (Nat.le_of_ble_eq_true rfl) (Nat.le_of_ble_eq_true rfl) rfl (Nat.le_of_ble_eq_true rfl) (Nat.le_of_ble_eq_true rfl) (Nat.le_of_ble_eq_true rfl) dX7_newName_15 rfl (fun v h23 hq => ?_)
    obtain ⟨rfl, hw⟩ := hq
    refine G.cse (cs' := (0, 0)) rfl ?_
    show GZ _ _ _ _ _ _ _ 18 _ [] _ _
    refine G_goto (tgt := 46) dX7_newName_18 rfl ?_
    refine G.less [some (.ref l0), none, none] ⟨rfl, trivial⟩ ?_
    exact f_X7_newName_46_ok hs _ h23 Q hw
set_option maxHeartbeats 4000000 in
set_option maxRecDepth 100000 in
theorem f_X5_expect_13_ok {Γ : GX} (hs : SF Γ) {N : Nat} (l0 : Nat) (h : PH) (Q : Unit → PH → Prop) (hw : wp (f_X5_expect_13 N l0 h) Q) : G Γ yX5_expect cX5_expect 2 none (6, 0, 0) 13 [some (.ref l0), none] [] h (0, 0) (q_u Q) := by
  unfold f_X5_expect_13 at hw
  refine G_aload_n dX5_expect_13 rfl ?_
  obtain ⟨c3, hw⟩ := wp_ck hw
  refine G_callV (As := []) (s_X5_step hs l0 h _ (wp_cl hw)) ca_X5_step w_586 w_587 (ci := 5) rfl (by decide) w_585 c3 (Nat.le_of_ble_eq_true rfl) (Nat.le_of_ble_eq_true rfl) rfl (Nat.le_of_ble_eq_true rfl) (Nat.le_of_ble_eq_true rfl) (Nat.le_of_ble_eq_true rfl) dX5_expect_14 rfl (fun v h2 hq => ?_)
  obtain ⟨rfl, hw⟩ := hq
  refine G.cse (cs' := (0, 0)) rfl ?_
  show GZ _ _ _ _ _ _ _ 17 _ [] _ _
  exact G_vreturn rfl dX5_expect_17 ⟨rfl, wp_ret hw⟩
set_option maxHeartbeats 4000000 in
set_option maxRecDepth 100000 in
theorem s_X5_expect {Γ : GX} (hs : SF Γ) {N : Nat} (l0 : Nat) (l1 : Nat) (h : PH) (Q : Unit → PH → Prop) (hw : wp (f_X5_expect N l0 l1 h) Q) : Spec Γ yX5_expect cX5_expect 2 none (6, 0, 0) [.ref l0, .ref l1] h (q_u Q) := by
  refine Spec.of (by decide) (Nat.le_of_ble_eq_true rfl) [some (.ref l0), some (.ref l1)] rfl ?_
  unfold f_X5_expect at hw
  refine G_aload_n dX5_expect_0 rfl ?_
  refine G_aload_n dX5_expect_1 rfl ?_
  obtain ⟨c3, hw⟩ := wp_ck hw
  refine G_callV (As := [.ref l1]) (s_X5_isAt hs l0 l1 h _ (wp_cl hw)) ca_X5_isAt w_703 w_704 (ci := 5) rfl (by decide) w_741 c3 (Nat.le_of_ble_eq_true rfl) (Nat.le_of_ble_eq_true rfl) rfl (Nat.le_of_ble_eq_true rfl) (Nat.le_of_ble_eq_true rfl) (Nat.le_of_ble_eq_true rfl) dX5_expect_2 rfl (fun v h2 hq => ?_)
  obtain ⟨r1, rfl, hw⟩ := hq
  refine G.cse (cs' := (0, 0)) rfl ?_
  show GZ _ _ _ _ _ _ _ 5 _ (.int r1 :: []) _ _
  have hw := wp_if hw
  refine G_if_ne (tgt := 13) dX5_expect_5 rfl (fun c4 => ?_) (fun c4 => ?_)
  · have hw := hw.2 c4
    refine G.less [some (.ref l0), none] ⟨rfl, trivial⟩ ?_
    exact f_X5_expect_13_ok hs _ h2 Q hw
  · have hw := hw.1 c4
    refine G_aload_n dX5_expect_8 rfl ?_
    refine G_iconst (v := (1 : Int32)) dX5_expect_9 (by decide) ?_
    obtain ⟨c7, hw⟩ := wp_ck hw
    refine G_callV (As := [.int (1 : Int32)]) (s_X5_fail hs l0 (1 : Int32) h2 _ (wp_cl hw)) ca_X5_fail w_715 w_716 (ci := 5) rfl (by decide) w_742 c7 (Nat.le_of_ble_eq_true rfl) (Nat.le_of_ble_eq_true rfl) rfl (Nat.le_of_ble_eq_true rfl) (Nat.le_of_ble_eq_true rfl) (Nat.le_of_ble_eq_true rfl) dX5_expect_10 rfl (fun v h6 hq => ?_)
    obtain ⟨rfl, hw⟩ := hq
    refine G.cse (cs' := (0, 0)) rfl ?_
    show GZ _ _ _ _ _ _ _ 13 _ [] _ _
    refine G.less [some (.ref l0), none] ⟨rfl, trivial⟩ ?_
    exact f_X5_expect_13_ok hs _ h6 Q hw
set_option maxHeartbeats 4000000 in
set_option maxRecDepth 100000 in
theorem s_X5_isAtNumber {Γ : GX} (hs : SF Γ) {N : Nat} (l0 : Nat) (h : PH) (Q : Int32 → PH → Prop) (hw : wp (f_X5_isAtNumber N l0 h) Q) : Spec Γ yX5_isAtNumber cX5_isAtNumber 1 (some .boolean) (1, 0, 0) [.ref l0] h (q_i Q) := by
  refine Spec.of (by decide) (Nat.le_of_ble_eq_true rfl) [some (.ref l0)] rfl ?_
  unfold f_X5_isAtNumber at hw
  refine G_aload_n dX5_isAtNumber_0 rfl ?_
  obtain ⟨c1, hw⟩ := wp_ck hw
  refine G_getI fl_X5_fault w_180 dX5_isAtNumber_1 c1 ?_
  have hw := wp_if hw
  refine G_if_ne (tgt := 19) dX5_isAtNumber_4 rfl (fun c2 => ?_) (fun c2 => ?_)
  · have hw := hw.2 c2
    refine G_iconst (v := (0 : Int32)) dX5_isAtNumber_19 (by decide) ?_
    exact G_zreturn rfl dX5_isAtNumber_20 rfl ⟨_, rfl, wp_ret hw⟩
  · have hw := hw.1 c2
    refine G_aload_n dX5_isAtNumber_7 rfl ?_
    refine G_getI fl_X5_kind w_172 dX5_isAtNumber_8 c1 ?_
    refine G_iconst (v := (3 : Int32)) dX5_isAtNumber_11 (by decide) ?_
    have hw := wp_if hw
    refine G_icmp_ne (tgt := 19) dX5_isAtNumber_12 rfl (fun c3 => ?_) (fun c3 => ?_)
    · have hw := hw.2 c3
      refine G_iconst (v := (0 : Int32)) dX5_isAtNumber_19 (by decide) ?_
      exact G_zreturn rfl dX5_isAtNumber_20 rfl ⟨_, rfl, wp_ret hw⟩
    · have hw := hw.1 c3
      refine G_iconst (v := (1 : Int32)) dX5_isAtNumber_15 (by decide) ?_
      refine G_goto (tgt := 20) dX5_isAtNumber_16 rfl ?_
      exact G_zreturn rfl dX5_isAtNumber_20 rfl ⟨_, rfl, wp_ret hw⟩
set_option maxHeartbeats 4000000 in
set_option maxRecDepth 100000 in
theorem f_X5_expectNumber_36_ok {Γ : GX} (hs : SF Γ) {N : Nat} (l0 : Nat) (h : PH) (Q : Int32 → PH → Prop) (hw : wp (f_X5_expectNumber_36 N l0 h) Q) : G Γ yX5_expectNumber cX5_expectNumber 4 (some .int) (6, 0, 0) 36 [some (.ref l0), none, none, none] [] h (0, 0) (q_i Q) := by
  unfold f_X5_expectNumber_36 at hw
  refine G_aload_n dX5_expectNumber_36 rfl ?_
  obtain ⟨c1, hw⟩ := wp_ck hw
  refine G_getI fl_X5_number w_176 dX5_expectNumber_37 c1 ?_
  refine G.topi fun v2 ev2 => ?_
  have hw := wp_bd hw v2 ev2
  refine G_istore_n (lv' := [some (.ref l0), none, none, some (.int v2)]) dX5_expectNumber_40 (Nat.le_of_ble_eq_true rfl) rfl ?_
  refine G_aload_n dX5_expectNumber_41 rfl ?_
  refine G_callV (As := []) (s_X5_step hs l0 h _ (wp_cl hw)) ca_X5_step w_586 w_587 (ci := 5) rfl (by decide) w_585 c1 (Nat.le_of_ble_eq_true rfl) (Nat.le_of_ble_eq_true rfl) rfl (Nat.le_of_ble_eq_true rfl) (Nat.le_of_ble_eq_true rfl) (Nat.le_of_ble_eq_true rfl) dX5_expectNumber_42 rfl (fun v h4 hq => ?_)
  obtain ⟨rfl, hw⟩ := hq
  refine G.cse (cs' := (0, 0)) rfl ?_
  show GZ _ _ _ _ _ _ _ 45 _ [] _ _
  refine G_iload_n dX5_expectNumber_45 rfl ?_
  exact G_ireturn rfl dX5_expectNumber_46 ⟨_, rfl, wp_ret hw⟩
set_option maxHeartbeats 4000000 in
set_option maxRecDepth 100000 in
theorem f_X5_expectNumber_31_ok {Γ : GX} (hs : SF Γ) {N : Nat} (l0 : Nat) (h : PH) (Q : Int32 → PH → Prop) (hw : wp (f_X5_expectNumber_31 N l0 h) Q) : G Γ yX5_expectNumber cX5_expectNumber 4 (some .int) (6, 0, 0) 31 [some (.ref l0), none, none, none] [] h (0, 0) (q_i Q) := by
  unfold f_X5_expectNumber_31 at hw
  refine G_aload_n dX5_expectNumber_31 rfl ?_
  refine G_iconst (v := (4 : Int32)) dX5_expectNumber_32 (by decide) ?_
  obtain ⟨c3, hw⟩ := wp_ck hw
  refine G_callV (As := [.int (4 : Int32)]) (s_X5_fail hs l0 (4 : Int32) h _ (wp_cl hw)) ca_X5_fail w_715 w_716 (ci := 5) rfl (by decide) w_742 c3 (Nat.le_of_ble_eq_true rfl) (Nat.le_of_ble_eq_true rfl) rfl (Nat.le_of_ble_eq_true rfl) (Nat.le_of_ble_eq_true rfl) (Nat.le_of_ble_eq_true rfl) dX5_expectNumber_33 rfl (fun v h2 hq => ?_)
  obtain ⟨rfl, hw⟩ := hq
  refine G.cse (cs' := (0, 0)) rfl ?_
  show GZ _ _ _ _ _ _ _ 36 _ [] _ _
  refine G.less [some (.ref l0), none, none, none] ⟨rfl, trivial⟩ ?_
  exact f_X5_expectNumber_36_ok hs _ h2 Q hw
set_option maxHeartbeats 4000000 in
set_option maxRecDepth 100000 in
theorem s_X5_expectNumber {Γ : GX} (hs : SF Γ) {N : Nat} (l0 : Nat) (l1 : Int32) (l2 : Int32) (h : PH) (Q : Int32 → PH → Prop) (hw : wp (f_X5_expectNumber N l0 l1 l2 h) Q) : Spec Γ yX5_expectNumber cX5_expectNumber 4 (some .int) (6, 0, 0) [.ref l0, .int l1, .int l2] h (q_i Q) := by
  refine Spec.of (by decide) (Nat.le_of_ble_eq_true rfl) [some (.ref l0), some (.int l1), some (.int l2), none] rfl ?_
  unfold f_X5_expectNumber at hw
  refine G_aload_n dX5_expectNumber_0 rfl ?_
  obtain ⟨c3, hw⟩ := wp_ck hw
  refine G_callV (As := []) (s_X5_isAtNumber hs l0 h _ (wp_cl hw)) ca_X5_isAtNumber w_748 w_749 (ci := 5) rfl (by decide) w_747 c3 (Nat.le_of_ble_eq_true rfl) (Nat.le_of_ble_eq_true rfl) rfl (Nat.le_of_ble_eq_true rfl) (Nat.le_of_ble_eq_true rfl) (Nat.le_of_ble_eq_true rfl) dX5_expectNumber_1 rfl (fun v h2 hq => ?_)
  obtain ⟨r1, rfl, hw⟩ := hq
  refine G.cse (cs' := (0, 0)) rfl ?_
  show GZ _ _ _ _ _ _ _ 4 _ (.int r1 :: []) _ _
  have hw := wp_if hw
  refine G_if_ne (tgt := 15) dX5_expectNumber_4 rfl (fun c4 => ?_) (fun c4 => ?_)
  · have hw := hw.2 c4
    refine G_aload_n dX5_expectNumber_15 rfl ?_
    obtain ⟨c5, hw⟩ := wp_ck hw
    refine G_getI fl_X5_number w_176 dX5_expectNumber_16 c5 ?_
    refine G_iload_n dX5_expectNumber_19 rfl ?_
    have hw := wp_if hw
    refine G_icmp_lt (tgt := 31) dX5_expectNumber_20 rfl (fun c6 => ?_) (fun c6 => ?_)
    · have hw := hw.1 c6
      refine G.less [some (.ref l0), none, none, none] ⟨rfl, trivial⟩ ?_
      exact f_X5_expectNumber_31_ok hs _ h2 Q hw
    · have hw := hw.2 c6
      refine G_aload_n dX5_expectNumber_23 rfl ?_
      refine G_getI fl_X5_number w_176 dX5_expectNumber_24 c5 ?_
      refine G_iload_n dX5_expectNumber_27 rfl ?_
      have hw := wp_if hw
      refine G_icmp_le (tgt := 36) dX5_expectNumber_28 rfl (fun c7 => ?_) (fun c7 => ?_)
      · have hw := hw.1 c7
        refine G.less [some (.ref l0), none, none, none] ⟨rfl, trivial⟩ ?_
        exact f_X5_expectNumber_36_ok hs _ h2 Q hw
      · have hw := hw.2 c7
        refine G.less [some (.ref l0), none, none, none] ⟨rfl, trivial⟩ ?_
        exact f_X5_expectNumber_31_ok hs _ h2 Q hw
  · have hw := hw.1 c4
    refine G_aload_n dX5_expectNumber_7 rfl ?_
    refine G_iconst (v := (1 : Int32)) dX5_expectNumber_8 (by decide) ?_
    obtain ⟨c10, hw⟩ := wp_ck hw
    refine G_callV (As := [.int (1 : Int32)]) (s_X5_fail hs l0 (1 : Int32) h2 _ (wp_cl hw)) ca_X5_fail w_715 w_716 (ci := 5) rfl (by decide) w_742 c10 (Nat.le_of_ble_eq_true rfl) (Nat.le_of_ble_eq_true rfl) rfl (Nat.le_of_ble_eq_true rfl) (Nat.le_of_ble_eq_true rfl) (Nat.le_of_ble_eq_true rfl) dX5_expectNumber_9 rfl (fun v h9 hq => ?_)
    obtain ⟨rfl, hw⟩ := hq
    refine G.cse (cs' := (0, 0)) rfl ?_
    show GZ _ _ _ _ _ _ _ 12 _ [] _ _
    refine G_goto (tgt := 36) dX5_expectNumber_12 rfl ?_
    refine G.less [some (.ref l0), none, none, none] ⟨rfl, trivial⟩ ?_
    exact f_X5_expectNumber_36_ok hs _ h9 Q hw
set_option maxHeartbeats 4000000 in
set_option maxRecDepth 100000 in
theorem s_X5_isAtSign {Γ : GX} (hs : SF Γ) {N : Nat} (l0 : Nat) (l1 : Int32) (h : PH) (Q : Int32 → PH → Prop) (hw : wp (f_X5_isAtSign N l0 l1 h) Q) : Spec Γ yX5_isAtSign cX5_isAtSign 2 (some .boolean) (1, 0, 0) [.ref l0, .int l1] h (q_i Q) := by
  refine Spec.of (by decide) (Nat.le_of_ble_eq_true rfl) [some (.ref l0), some (.int l1)] rfl ?_
  unfold f_X5_isAtSign at hw
  refine G_aload_n dX5_isAtSign_0 rfl ?_
  obtain ⟨c1, hw⟩ := wp_ck hw
  refine G_getI fl_X5_fault w_180 dX5_isAtSign_1 c1 ?_
  have hw := wp_if hw
  refine G_if_ne (tgt := 19) dX5_isAtSign_4 rfl (fun c2 => ?_) (fun c2 => ?_)
  · have hw := hw.2 c2
    refine G_iconst (v := (0 : Int32)) dX5_isAtSign_19 (by decide) ?_
    exact G_zreturn rfl dX5_isAtSign_20 rfl ⟨_, rfl, wp_ret hw⟩
  · have hw := hw.1 c2
    refine G_aload_n dX5_isAtSign_7 rfl ?_
    refine G_getI fl_X5_kind w_172 dX5_isAtSign_8 c1 ?_
    refine G_iload_n dX5_isAtSign_11 rfl ?_
    have hw := wp_if hw
    refine G_icmp_ne (tgt := 19) dX5_isAtSign_12 rfl (fun c3 => ?_) (fun c3 => ?_)
    · have hw := hw.2 c3
      refine G_iconst (v := (0 : Int32)) dX5_isAtSign_19 (by decide) ?_
      exact G_zreturn rfl dX5_isAtSign_20 rfl ⟨_, rfl, wp_ret hw⟩
    · have hw := hw.1 c3
      refine G_iconst (v := (1 : Int32)) dX5_isAtSign_15 (by decide) ?_
      refine G_goto (tgt := 20) dX5_isAtSign_16 rfl ?_
      exact G_zreturn rfl dX5_isAtSign_20 rfl ⟨_, rfl, wp_ret hw⟩
set_option maxHeartbeats 4000000 in
set_option maxRecDepth 100000 in
theorem f_X5_expectSign_13_ok {Γ : GX} (hs : SF Γ) {N : Nat} (l0 : Nat) (h : PH) (Q : Unit → PH → Prop) (hw : wp (f_X5_expectSign_13 N l0 h) Q) : G Γ yX5_expectSign cX5_expectSign 2 none (6, 0, 0) 13 [some (.ref l0), none] [] h (0, 0) (q_u Q) := by
  unfold f_X5_expectSign_13 at hw
  refine G_aload_n dX5_expectSign_13 rfl ?_
  obtain ⟨c3, hw⟩ := wp_ck hw
  refine G_callV (As := []) (s_X5_step hs l0 h _ (wp_cl hw)) ca_X5_step w_586 w_587 (ci := 5) rfl (by decide) w_585 c3 (Nat.le_of_ble_eq_true rfl) (Nat.le_of_ble_eq_true rfl) rfl (Nat.le_of_ble_eq_true rfl) (Nat.le_of_ble_eq_true rfl) (Nat.le_of_ble_eq_true rfl) dX5_expectSign_14 rfl (fun v h2 hq => ?_)
  obtain ⟨rfl, hw⟩ := hq
  refine G.cse (cs' := (0, 0)) rfl ?_
  show GZ _ _ _ _ _ _ _ 17 _ [] _ _
  exact G_vreturn rfl dX5_expectSign_17 ⟨rfl, wp_ret hw⟩
set_option maxHeartbeats 4000000 in
set_option maxRecDepth 100000 in
theorem s_X5_expectSign {Γ : GX} (hs : SF Γ) {N : Nat} (l0 : Nat) (l1 : Int32) (h : PH) (Q : Unit → PH → Prop) (hw : wp (f_X5_expectSign N l0 l1 h) Q) : Spec Γ yX5_expectSign cX5_expectSign 2 none (6, 0, 0) [.ref l0, .int l1] h (q_u Q) := by
  refine Spec.of (by decide) (Nat.le_of_ble_eq_true rfl) [some (.ref l0), some (.int l1)] rfl ?_
  unfold f_X5_expectSign at hw
  refine G_aload_n dX5_expectSign_0 rfl ?_
  refine G_iload_n dX5_expectSign_1 rfl ?_
  obtain ⟨c3, hw⟩ := wp_ck hw
  refine G_callV (As := [.int l1]) (s_X5_isAtSign hs l0 l1 h _ (wp_cl hw)) ca_X5_isAtSign w_760 w_761 (ci := 5) rfl (by decide) w_759 c3 (Nat.le_of_ble_eq_true rfl) (Nat.le_of_ble_eq_true rfl) rfl (Nat.le_of_ble_eq_true rfl) (Nat.le_of_ble_eq_true rfl) (Nat.le_of_ble_eq_true rfl) dX5_expectSign_2 rfl (fun v h2 hq => ?_)
  obtain ⟨r1, rfl, hw⟩ := hq
  refine G.cse (cs' := (0, 0)) rfl ?_
  show GZ _ _ _ _ _ _ _ 5 _ (.int r1 :: []) _ _
  have hw := wp_if hw
  refine G_if_ne (tgt := 13) dX5_expectSign_5 rfl (fun c4 => ?_) (fun c4 => ?_)
  · have hw := hw.2 c4
    refine G.less [some (.ref l0), none] ⟨rfl, trivial⟩ ?_
    exact f_X5_expectSign_13_ok hs _ h2 Q hw
  · have hw := hw.1 c4
    refine G_aload_n dX5_expectSign_8 rfl ?_
    refine G_iconst (v := (1 : Int32)) dX5_expectSign_9 (by decide) ?_
    obtain ⟨c7, hw⟩ := wp_ck hw
    refine G_callV (As := [.int (1 : Int32)]) (s_X5_fail hs l0 (1 : Int32) h2 _ (wp_cl hw)) ca_X5_fail w_715 w_716 (ci := 5) rfl (by decide) w_742 c7 (Nat.le_of_ble_eq_true rfl) (Nat.le_of_ble_eq_true rfl) rfl (Nat.le_of_ble_eq_true rfl) (Nat.le_of_ble_eq_true rfl) (Nat.le_of_ble_eq_true rfl) dX5_expectSign_10 rfl (fun v h6 hq => ?_)
    obtain ⟨rfl, hw⟩ := hq
    refine G.cse (cs' := (0, 0)) rfl ?_
    show GZ _ _ _ _ _ _ _ 13 _ [] _ _
    refine G.less [some (.ref l0), none] ⟨rfl, trivial⟩ ?_
    exact f_X5_expectSign_13_ok hs _ h6 Q hw
set_option maxHeartbeats 4000000 in
set_option maxRecDepth 100000 in
theorem s_X5_isSound {Γ : GX} (hs : SF Γ) {N : Nat} (l0 : Nat) (h : PH) (Q : Int32 → PH → Prop) (hw : wp (f_X5_isSound N l0 h) Q) : Spec Γ yX5_isSound cX5_isSound 1 (some .boolean) (1, 0, 0) [.ref l0] h (q_i Q) := by
  refine Spec.of (by decide) (Nat.le_of_ble_eq_true rfl) [some (.ref l0)] rfl ?_
  unfold f_X5_isSound at hw
  refine G_aload_n dX5_isSound_0 rfl ?_
  obtain ⟨c1, hw⟩ := wp_ck hw
  refine G_getI fl_X5_fault w_180 dX5_isSound_1 c1 ?_
  have hw := wp_if hw
  refine G_if_ne (tgt := 11) dX5_isSound_4 rfl (fun c2 => ?_) (fun c2 => ?_)
  · have hw := hw.2 c2
    refine G_iconst (v := (0 : Int32)) dX5_isSound_11 (by decide) ?_
    exact G_zreturn rfl dX5_isSound_12 rfl ⟨_, rfl, wp_ret hw⟩
  · have hw := hw.1 c2
    refine G_iconst (v := (1 : Int32)) dX5_isSound_7 (by decide) ?_
    refine G_goto (tgt := 12) dX5_isSound_8 rfl ?_
    exact G_zreturn rfl dX5_isSound_12 rfl ⟨_, rfl, wp_ret hw⟩
set_option maxHeartbeats 4000000 in
set_option maxRecDepth 100000 in
theorem s_X6_enter {Γ : GX} (hs : SF Γ) {N : Nat} (l0 : Nat) (l1 : Int32) (l2 : Int64) (h : PH) (Q : Unit → PH → Prop) (hw : wp (f_X6_enter N l0 l1 l2 h) Q) : Spec Γ yX6_enter cX6_enter 4 none (1, 0, 0) [.ref l0, .int l1, .long l2] h (q_u Q) := by
  refine Spec.of (by decide) (Nat.le_of_ble_eq_true rfl) [some (.ref l0), some (.int l1), some (.long l2), none] rfl ?_
  unfold f_X6_enter at hw
  refine G_aload_n dX6_enter_0 rfl ?_
  obtain ⟨c1, hw⟩ := wp_ck hw
  refine G_getR fl_X6_many w_426 dX6_enter_1 c1 ?_
  obtain ⟨a2, ea2, hw⟩ := wp_rq hw
  refine G.sure ea2 ?_
  refine G_iload_n dX6_enter_4 rfl ?_
  obtain ⟨c3, hw⟩ := wp_ck hw
  obtain ⟨c4, hw⟩ := wp_ck hw
  refine G_iaload dX6_enter_5 c3 c4 ?_
  refine G_bipush (v := (6 : Int32)) dX6_enter_6 (by decide) ?_
  have hw := wp_if hw
  refine G_icmp_ge (tgt := 38) dX6_enter_8 rfl (fun c5 => ?_) (fun c5 => ?_)
  · have hw := hw.1 c5
    exact G_vreturn rfl dX6_enter_38 ⟨rfl, wp_ret hw⟩
  · have hw := hw.2 c5
    refine G_aload_n dX6_enter_11 rfl ?_
    refine G_getR fl_X6_names w_432 dX6_enter_12 c1 ?_
    obtain ⟨a6, ea6, hw⟩ := wp_rq hw
    refine G.sure ea6 ?_
    refine G_iload_n dX6_enter_15 rfl ?_
    refine G_bipush (v := (6 : Int32)) dX6_enter_16 (by decide) ?_
    refine G_imul dX6_enter_18 ?_
    refine G_aload_n dX6_enter_19 rfl ?_
    refine G_getR fl_X6_many w_426 dX6_enter_20 c1 ?_
    obtain ⟨a7, ea7, hw⟩ := wp_rq hw
    refine G.sure ea7 ?_
    refine G_iload_n dX6_enter_23 rfl ?_
    obtain ⟨c8, hw⟩ := wp_ck hw
    obtain ⟨c9, hw⟩ := wp_ck hw
    refine G_iaload dX6_enter_24 c8 c9 ?_
    refine G_iadd dX6_enter_25 ?_
    refine G_lload_n dX6_enter_26 rfl ?_
    obtain ⟨c10, hw⟩ := wp_ck hw
    obtain ⟨c11, hw⟩ := wp_ck hw
    refine G_lastore dX6_enter_27 c10 c11 ?_
    refine G.nmh fun h12 eh12 => ?_
    have hw := wp_bd hw h12 eh12
    refine G_aload_n dX6_enter_28 rfl ?_
    obtain ⟨c13, hw⟩ := wp_ck hw
    refine G_getR fl_X6_many w_426 dX6_enter_29 c13 ?_
    obtain ⟨a14, ea14, hw⟩ := wp_rq hw
    refine G.sure ea14 ?_
    refine G_iload_n dX6_enter_32 rfl ?_
    refine G_dup2 dX6_enter_33 rfl rfl ?_
    obtain ⟨c15, hw⟩ := wp_ck hw
    obtain ⟨c16, hw⟩ := wp_ck hw
    refine G_iaload dX6_enter_34 c15 c16 ?_
    refine G_iconst (v := (1 : Int32)) dX6_enter_35 (by decide) ?_
    refine G_iadd dX6_enter_36 ?_
    refine G_iastore dX6_enter_37 c15 c16 ?_
    refine G.nmh fun h17 eh17 => ?_
    have hw := wp_bd hw h17 eh17
    exact G_vreturn rfl dX6_enter_38 ⟨rfl, wp_ret hw⟩
set_option maxHeartbeats 4000000 in
set_option maxRecDepth 100000 in
theorem s_X7_readFuel {Γ : GX} (hs : SF Γ) {N : Nat} (l0 : Nat) (h : PH) (Q : Unit → PH → Prop) (hw : wp (f_X7_readFuel N l0 h) Q) : Spec Γ yX7_readFuel cX7_readFuel 7 none (7, 0, 0) [.ref l0] h (q_u Q) := by
  refine Spec.of (by decide) (Nat.le_of_ble_eq_true rfl) [some (.ref l0), none, none, none, none, none, none] rfl ?_
  unfold f_X7_readFuel at hw
  refine G_aload_n dX7_readFuel_0 rfl ?_
  refine G_iconst (v := (0 : Int32)) dX7_readFuel_1 (by decide) ?_
  refine G_iconst (v := (5 : Int32)) dX7_readFuel_2 (by decide) ?_
  obtain ⟨c3, hw⟩ := wp_ck hw
  refine G_callV (As := [.int (0 : Int32), .int (5 : Int32)]) (s_X7_oneMore hs l0 (0 : Int32) (5 : Int32) h _ (wp_cl hw)) ca_X7_oneMore w_712 w_3 (ci := 7) rfl (by decide) w_710 c3 (Nat.le_of_ble_eq_true rfl) (Nat.le_of_ble_eq_true rfl) rfl (Nat.le_of_ble_eq_true rfl) (Nat.le_of_ble_eq_true rfl) (Nat.le_of_ble_eq_true rfl) dX7_readFuel_3 rfl (fun v h2 hq => ?_)
  obtain ⟨r1, rfl, hw⟩ := hq
  refine G.cse (cs' := (0, 0)) rfl ?_
  show GZ _ _ _ _ _ _ _ 6 _ (.int r1 :: []) _ _
  refine G_istore_n (lv' := [some (.ref l0), some (.int r1), none, none, none, none, none]) dX7_readFuel_6 (Nat.le_of_ble_eq_true rfl) rfl ?_
  refine G_aload_n dX7_readFuel_7 rfl ?_
  obtain ⟨c6, hw⟩ := wp_ck hw
  refine G_callV (As := []) (s_X7_newName hs l0 h2 _ (wp_cl hw)) ca_X7_newName w_721 w_4 (ci := 7) rfl (by decide) w_719 c6 (Nat.le_of_ble_eq_true rfl) (Nat.le_of_ble_eq_true rfl) rfl (Nat.le_of_ble_eq_true rfl) (Nat.le_of_ble_eq_true rfl) (Nat.le_of_ble_eq_true rfl) dX7_readFuel_8 rfl (fun v h5 hq => ?_)
  obtain ⟨r4, rfl, hw⟩ := hq
  refine G.cse (cs' := (0, 0)) rfl ?_
  show GZ _ _ _ _ _ _ _ 11 _ (.long r4 :: []) _ _
  refine G_lstore_n (lv' := [some (.ref l0), some (.int r1), some (.long r4), none, none, none, none]) dX7_readFuel_11 (Nat.le_of_ble_eq_true rfl) rfl ?_
  refine G_aload_n dX7_readFuel_12 rfl ?_
  obtain ⟨c7, hw⟩ := wp_ck hw
  refine G_getR fl_X7_tape w_561 dX7_readFuel_13 c7 ?_
  obtain ⟨a8, ea8, hw⟩ := wp_rq hw
  refine G.sure ea8 ?_
  refine G_getsW hs 1 rfl (by decide) w_735 dX7_readFuel_16 ?_
  obtain ⟨c11, hw⟩ := wp_ck hw
  refine G_callV (As := [.ref (hW h5 1)]) (s_X5_expect hs a8 (hW h5 1) h5 _ (wp_cl hw)) ca_X5_expect w_738 w_739 (ci := 5) rfl (by decide) w_737 c11 (Nat.le_of_ble_eq_true rfl) (Nat.le_of_ble_eq_true rfl) rfl (Nat.le_of_ble_eq_true rfl) (Nat.le_of_ble_eq_true rfl) (Nat.le_of_ble_eq_true rfl) dX7_readFuel_19 rfl (fun v h10 hq => ?_)
  obtain ⟨rfl, hw⟩ := hq
  refine G.cse (cs' := (0, 0)) rfl ?_
  show GZ _ _ _ _ _ _ _ 22 _ [] _ _
  refine G_aload_n dX7_readFuel_22 rfl ?_
  obtain ⟨c12, hw⟩ := wp_ck hw
  refine G_getR fl_X7_tape w_561 dX7_readFuel_23 c12 ?_
  obtain ⟨a13, ea13, hw⟩ := wp_rq hw
  refine G.sure ea13 ?_
  refine G_iconst (v := (0 : Int32)) dX7_readFuel_26 (by decide) ?_
  refine G_bipush (v := (99 : Int32)) dX7_readFuel_27 (by decide) ?_
  obtain ⟨c16, hw⟩ := wp_ck hw
  refine G_callV (As := [.int (0 : Int32), .int (99 : Int32)]) (s_X5_expectNumber hs a13 (0 : Int32) (99 : Int32) h10 _ (wp_cl hw)) ca_X5_expectNumber w_744 w_745 (ci := 5) rfl (by decide) w_743 c16 (Nat.le_of_ble_eq_true rfl) (Nat.le_of_ble_eq_true rfl) rfl (Nat.le_of_ble_eq_true rfl) (Nat.le_of_ble_eq_true rfl) (Nat.le_of_ble_eq_true rfl) dX7_readFuel_29 rfl (fun v h15 hq => ?_)
  obtain ⟨r14, rfl, hw⟩ := hq
  refine G.cse (cs' := (0, 0)) rfl ?_
  show GZ _ _ _ _ _ _ _ 32 _ (.int r14 :: []) _ _
  refine G_istore (lv' := [some (.ref l0), some (.int r1), some (.long r4), none, some (.int r14), none, none]) dX7_readFuel_32 (Nat.le_of_ble_eq_true rfl) rfl ?_
  refine G_aload_n dX7_readFuel_34 rfl ?_
  obtain ⟨c17, hw⟩ := wp_ck hw
  refine G_getR fl_X7_tape w_561 dX7_readFuel_35 c17 ?_
  obtain ⟨a18, ea18, hw⟩ := wp_rq hw
  refine G.sure ea18 ?_
  refine G_getsW hs 2 rfl (by decide) w_751 dX7_readFuel_38 ?_
  obtain ⟨c21, hw⟩ := wp_ck hw
  refine G_callV (As := [.ref (hW h15 2)]) (s_X5_expect hs a18 (hW h15 2) h15 _ (wp_cl hw)) ca_X5_expect w_738 w_739 (ci := 5) rfl (by decide) w_737 c21 (Nat.le_of_ble_eq_true rfl) (Nat.le_of_ble_eq_true rfl) rfl (Nat.le_of_ble_eq_true rfl) (Nat.le_of_ble_eq_true rfl) (Nat.le_of_ble_eq_true rfl) dX7_readFuel_41 rfl (fun v h20 hq => ?_)
  obtain ⟨rfl, hw⟩ := hq
  refine G.cse (cs' := (0, 0)) rfl ?_
  show GZ _ _ _ _ _ _ _ 44 _ [] _ _
  refine G_aload_n dX7_readFuel_44 rfl ?_
  obtain ⟨c22, hw⟩ := wp_ck hw
  refine G_getR fl_X7_tape w_561 dX7_readFuel_45 c22 ?_
  obtain ⟨a23, ea23, hw⟩ := wp_rq hw
  refine G.sure ea23 ?_
  refine G_iconst (v := (0 : Int32)) dX7_readFuel_48 (by decide) ?_
  refine G_bipush (v := (99 : Int32)) dX7_readFuel_49 (by decide) ?_
  obtain ⟨c26, hw⟩ := wp_ck hw
  refine G_callV (As := [.int (0 : Int32), .int (99 : Int32)]) (s_X5_expectNumber hs a23 (0 : Int32) (99 : Int32) h20 _ (wp_cl hw)) ca_X5_expectNumber w_744 w_745 (ci := 5) rfl (by decide) w_743 c26 (Nat.le_of_ble_eq_true rfl) (Nat.le_of_ble_eq_true rfl) rfl (Nat.le_of_ble_eq_true rfl) (Nat.le_of_ble_eq_true rfl) (Nat.le_of_ble_eq_true rfl) dX7_readFuel_51 rfl (fun v h25 hq => ?_)
  obtain ⟨r24, rfl, hw⟩ := hq
  refine G.cse (cs' := (0, 0)) rfl ?_
  show GZ _ _ _ _ _ _ _ 54 _ (.int r24 :: []) _ _
  refine G_istore (lv' := [some (.ref l0), some (.int r1), some (.long r4), none, some (.int r14), some (.int r24), none]) dX7_readFuel_54 (Nat.le_of_ble_eq_true rfl) rfl ?_
  refine G_aload_n dX7_readFuel_56 rfl ?_
  obtain ⟨c27, hw⟩ := wp_ck hw
  refine G_getR fl_X7_tape w_561 dX7_readFuel_57 c27 ?_
  obtain ⟨a28, ea28, hw⟩ := wp_rq hw
  refine G.sure ea28 ?_
  refine G_getsW hs 3 rfl (by decide) w_753 dX7_readFuel_60 ?_
  obtain ⟨c31, hw⟩ := wp_ck hw
  refine G_callV (As := [.ref (hW h25 3)]) (s_X5_expect hs a28 (hW h25 3) h25 _ (wp_cl hw)) ca_X5_expect w_738 w_739 (ci := 5) rfl (by decide) w_737 c31 (Nat.le_of_ble_eq_true rfl) (Nat.le_of_ble_eq_true rfl) rfl (Nat.le_of_ble_eq_true rfl) (Nat.le_of_ble_eq_true rfl) (Nat.le_of_ble_eq_true rfl) dX7_readFuel_63 rfl (fun v h30 hq => ?_)
  obtain ⟨rfl, hw⟩ := hq
  refine G.cse (cs' := (0, 0)) rfl ?_
  show GZ _ _ _ _ _ _ _ 66 _ [] _ _
  refine G_aload_n dX7_readFuel_66 rfl ?_
  obtain ⟨c32, hw⟩ := wp_ck hw
  refine G_getR fl_X7_tape w_561 dX7_readFuel_67 c32 ?_
  obtain ⟨a33, ea33, hw⟩ := wp_rq hw
  refine G.sure ea33 ?_
  refine G_iconst (v := (1 : Int32)) dX7_readFuel_70 (by decide) ?_
  refine G_bipush (v := (9 : Int32)) dX7_readFuel_71 (by decide) ?_
  obtain ⟨c36, hw⟩ := wp_ck hw
  refine G_callV (As := [.int (1 : Int32), .int (9 : Int32)]) (s_X5_expectNumber hs a33 (1 : Int32) (9 : Int32) h30 _ (wp_cl hw)) ca_X5_expectNumber w_744 w_745 (ci := 5) rfl (by decide) w_743 c36 (Nat.le_of_ble_eq_true rfl) (Nat.le_of_ble_eq_true rfl) rfl (Nat.le_of_ble_eq_true rfl) (Nat.le_of_ble_eq_true rfl) (Nat.le_of_ble_eq_true rfl) dX7_readFuel_73 rfl (fun v h35 hq => ?_)
  obtain ⟨r34, rfl, hw⟩ := hq
  refine G.cse (cs' := (0, 0)) rfl ?_
  show GZ _ _ _ _ _ _ _ 76 _ (.int r34 :: []) _ _
  refine G_istore (lv' := [some (.ref l0), some (.int r1), some (.long r4), none, some (.int r14), some (.int r24), some (.int r34)]) dX7_readFuel_76 (Nat.le_of_ble_eq_true rfl) rfl ?_
  refine G_aload_n dX7_readFuel_78 rfl ?_
  obtain ⟨c37, hw⟩ := wp_ck hw
  refine G_getR fl_X7_tape w_561 dX7_readFuel_79 c37 ?_
  obtain ⟨a38, ea38, hw⟩ := wp_rq hw
  refine G.sure ea38 ?_
  refine G_bipush (v := (59 : Int32)) dX7_readFuel_82 (by decide) ?_
  obtain ⟨c41, hw⟩ := wp_ck hw
  refine G_callV (As := [.int (59 : Int32)]) (s_X5_expectSign hs a38 (59 : Int32) h35 _ (wp_cl hw)) ca_X5_expectSign w_756 w_757 (ci := 5) rfl (by decide) w_755 c41 (Nat.le_of_ble_eq_true rfl) (Nat.le_of_ble_eq_true rfl) rfl (Nat.le_of_ble_eq_true rfl) (Nat.le_of_ble_eq_true rfl) (Nat.le_of_ble_eq_true rfl) dX7_readFuel_84 rfl (fun v h40 hq => ?_)
  obtain ⟨rfl, hw⟩ := hq
  refine G.cse (cs' := (0, 0)) rfl ?_
  show GZ _ _ _ _ _ _ _ 87 _ [] _ _
  refine G_aload_n dX7_readFuel_87 rfl ?_
  obtain ⟨c42, hw⟩ := wp_ck hw
  refine G_getR fl_X7_tape w_561 dX7_readFuel_88 c42 ?_
  obtain ⟨a43, ea43, hw⟩ := wp_rq hw
  refine G.sure ea43 ?_
  obtain ⟨c46, hw⟩ := wp_ck hw
  refine G_callV (As := []) (s_X5_isSound hs a43 h40 _ (wp_cl hw)) ca_X5_isSound w_764 w_765 (ci := 5) rfl (by decide) w_763 c46 (Nat.le_of_ble_eq_true rfl) (Nat.le_of_ble_eq_true rfl) rfl (Nat.le_of_ble_eq_true rfl) (Nat.le_of_ble_eq_true rfl) (Nat.le_of_ble_eq_true rfl) dX7_readFuel_91 rfl (fun v h45 hq => ?_)
  obtain ⟨r44, rfl, hw⟩ := hq
  refine G.cse (cs' := (0, 0)) rfl ?_
  show GZ _ _ _ _ _ _ _ 94 _ (.int r44 :: []) _ _
  have hw := wp_if hw
  refine G_if_eq (tgt := 144) dX7_readFuel_94 rfl (fun c47 => ?_) (fun c47 => ?_)
  · have hw := hw.1 c47
    exact G_vreturn rfl dX7_readFuel_144 ⟨rfl, wp_ret hw⟩
  · have hw := hw.2 c47
    refine G_iload_n dX7_readFuel_97 rfl ?_
    refine G_iconst (v := (5 : Int32)) dX7_readFuel_98 (by decide) ?_
    have hw := wp_if hw
    refine G_icmp_ge (tgt := 144) dX7_readFuel_99 rfl (fun c48 => ?_) (fun c48 => ?_)
    · have hw := hw.1 c48
      exact G_vreturn rfl dX7_readFuel_144 ⟨rfl, wp_ret hw⟩
    · have hw := hw.2 c48
      refine G_aload_n dX7_readFuel_102 rfl ?_
      obtain ⟨c49, hw⟩ := wp_ck hw
      refine G_getR fl_X7_valley w_562 dX7_readFuel_103 c49 ?_
      obtain ⟨a50, ea50, hw⟩ := wp_rq hw
      refine G.sure ea50 ?_
      obtain ⟨c51, hw⟩ := wp_ck hw
      refine G_getNR fl_X6_fuelDark w_434 dX7_readFuel_106 c51 ?_
      obtain ⟨a52, ea52, hw⟩ := wp_rq hw
      refine G.sure ea52 ?_
      refine G_iload_n dX7_readFuel_109 rfl ?_
      refine G_iload dX7_readFuel_110 rfl ?_
      obtain ⟨c53, hw⟩ := wp_ck hw
      obtain ⟨c54, hw⟩ := wp_ck hw
      refine G_iastore dX7_readFuel_112 c53 c54 ?_
      refine G.nmh fun h55 eh55 => ?_
      have hw := wp_bd hw h55 eh55
      refine G_aload_n dX7_readFuel_113 rfl ?_
      obtain ⟨c56, hw⟩ := wp_ck hw
      refine G_getR fl_X7_valley w_562 dX7_readFuel_114 c56 ?_
      obtain ⟨a57, ea57, hw⟩ := wp_rq hw
      refine G.sure ea57 ?_
      obtain ⟨c58, hw⟩ := wp_ck hw
      refine G_getNR fl_X6_fuelSweet w_436 dX7_readFuel_117 c58 ?_
      obtain ⟨a59, ea59, hw⟩ := wp_rq hw
      refine G.sure ea59 ?_
      refine G_iload_n dX7_readFuel_120 rfl ?_
      refine G_iload dX7_readFuel_121 rfl ?_
      obtain ⟨c60, hw⟩ := wp_ck hw
      obtain ⟨c61, hw⟩ := wp_ck hw
      refine G_iastore dX7_readFuel_123 c60 c61 ?_
      refine G.nmh fun h62 eh62 => ?_
      have hw := wp_bd hw h62 eh62
      refine G_aload_n dX7_readFuel_124 rfl ?_
      obtain ⟨c63, hw⟩ := wp_ck hw
      refine G_getR fl_X7_valley w_562 dX7_readFuel_125 c63 ?_
      obtain ⟨a64, ea64, hw⟩ := wp_rq hw
      refine G.sure ea64 ?_
      obtain ⟨c65, hw⟩ := wp_ck hw
      refine G_getNR fl_X6_fuelBurns w_439 dX7_readFuel_128 c65 ?_
      obtain ⟨a66, ea66, hw⟩ := wp_rq hw
      refine G.sure ea66 ?_
      refine G_iload_n dX7_readFuel_131 rfl ?_
      refine G_iload dX7_readFuel_132 rfl ?_
      obtain ⟨c67, hw⟩ := wp_ck hw
      obtain ⟨c68, hw⟩ := wp_ck hw
      refine G_iastore dX7_readFuel_134 c67 c68 ?_
      refine G.nmh fun h69 eh69 => ?_
      have hw := wp_bd hw h69 eh69
      refine G_aload_n dX7_readFuel_135 rfl ?_
      obtain ⟨c70, hw⟩ := wp_ck hw
      refine G_getR fl_X7_valley w_562 dX7_readFuel_136 c70 ?_
      obtain ⟨a71, ea71, hw⟩ := wp_rq hw
      refine G.sure ea71 ?_
      refine G_iconst (v := (0 : Int32)) dX7_readFuel_139 (by decide) ?_
      refine G_lload_n dX7_readFuel_140 rfl ?_
      obtain ⟨c74, hw⟩ := wp_ck hw
      refine G_callV (As := [.int (0 : Int32), .long r4]) (s_X6_enter hs a71 (0 : Int32) r4 h69 _ (wp_cl hw)) ca_X6_enter w_768 w_769 (ci := 6) rfl (by decide) w_767 c74 (Nat.le_of_ble_eq_true rfl) (Nat.le_of_ble_eq_true rfl) rfl (Nat.le_of_ble_eq_true rfl) (Nat.le_of_ble_eq_true rfl) (Nat.le_of_ble_eq_true rfl) dX7_readFuel_141 rfl (fun v h73 hq => ?_)
      obtain ⟨rfl, hw⟩ := hq
      refine G.cse (cs' := (0, 0)) rfl ?_
      show GZ _ _ _ _ _ _ _ 144 _ [] _ _
      exact G_vreturn rfl dX7_readFuel_144 ⟨rfl, wp_ret hw⟩
set_option maxHeartbeats 4000000 in
set_option maxRecDepth 100000 in
theorem s_X7_readFlue {Γ : GX} (hs : SF Γ) {N : Nat} (l0 : Nat) (h : PH) (Q : Unit → PH → Prop) (hw : wp (f_X7_readFlue N l0 h) Q) : Spec Γ yX7_readFlue cX7_readFlue 3 none (7, 0, 0) [.ref l0] h (q_u Q) := by
  refine Spec.of (by decide) (Nat.le_of_ble_eq_true rfl) [some (.ref l0), none, none] rfl ?_
  unfold f_X7_readFlue at hw
  refine G_aload_n dX7_readFlue_0 rfl ?_
  refine G_iconst (v := (1 : Int32)) dX7_readFlue_1 (by decide) ?_
  refine G_iconst (v := (3 : Int32)) dX7_readFlue_2 (by decide) ?_
  obtain ⟨c3, hw⟩ := wp_ck hw
  refine G_callV (As := [.int (1 : Int32), .int (3 : Int32)]) (s_X7_oneMore hs l0 (1 : Int32) (3 : Int32) h _ (wp_cl hw)) ca_X7_oneMore w_712 w_3 (ci := 7) rfl (by decide) w_710 c3 (Nat.le_of_ble_eq_true rfl) (Nat.le_of_ble_eq_true rfl) rfl (Nat.le_of_ble_eq_true rfl) (Nat.le_of_ble_eq_true rfl) (Nat.le_of_ble_eq_true rfl) dX7_readFlue_3 rfl (fun v h2 hq => ?_)
  obtain ⟨r1, rfl, hw⟩ := hq
  refine G.cse (cs' := (0, 0)) rfl ?_
  show GZ _ _ _ _ _ _ _ 6 _ (.int r1 :: []) _ _
  refine G_pop dX7_readFlue_6 rfl ?_
  refine G_aload_n dX7_readFlue_7 rfl ?_
  obtain ⟨c6, hw⟩ := wp_ck hw
  refine G_callV (As := []) (s_X7_newName hs l0 h2 _ (wp_cl hw)) ca_X7_newName w_721 w_4 (ci := 7) rfl (by decide) w_719 c6 (Nat.le_of_ble_eq_true rfl) (Nat.le_of_ble_eq_true rfl) rfl (Nat.le_of_ble_eq_true rfl) (Nat.le_of_ble_eq_true rfl) (Nat.le_of_ble_eq_true rfl) dX7_readFlue_8 rfl (fun v h5 hq => ?_)
  obtain ⟨r4, rfl, hw⟩ := hq
  refine G.cse (cs' := (0, 0)) rfl ?_
  show GZ _ _ _ _ _ _ _ 11 _ (.long r4 :: []) _ _
  refine G_lstore_n (lv' := [some (.ref l0), some (.long r4), none]) dX7_readFlue_11 (Nat.le_of_ble_eq_true rfl) rfl ?_
  refine G_aload_n dX7_readFlue_12 rfl ?_
  obtain ⟨c7, hw⟩ := wp_ck hw
  refine G_getR fl_X7_tape w_561 dX7_readFlue_13 c7 ?_
  obtain ⟨a8, ea8, hw⟩ := wp_rq hw
  refine G.sure ea8 ?_
  refine G_bipush (v := (59 : Int32)) dX7_readFlue_16 (by decide) ?_
  obtain ⟨c11, hw⟩ := wp_ck hw
  refine G_callV (As := [.int (59 : Int32)]) (s_X5_expectSign hs a8 (59 : Int32) h5 _ (wp_cl hw)) ca_X5_expectSign w_756 w_757 (ci := 5) rfl (by decide) w_755 c11 (Nat.le_of_ble_eq_true rfl) (Nat.le_of_ble_eq_true rfl) rfl (Nat.le_of_ble_eq_true rfl) (Nat.le_of_ble_eq_true rfl) (Nat.le_of_ble_eq_true rfl) dX7_readFlue_18 rfl (fun v h10 hq => ?_)
  obtain ⟨rfl, hw⟩ := hq
  refine G.cse (cs' := (0, 0)) rfl ?_
  show GZ _ _ _ _ _ _ _ 21 _ [] _ _
  refine G_aload_n dX7_readFlue_21 rfl ?_
  obtain ⟨c12, hw⟩ := wp_ck hw
  refine G_getR fl_X7_tape w_561 dX7_readFlue_22 c12 ?_
  obtain ⟨a13, ea13, hw⟩ := wp_rq hw
  refine G.sure ea13 ?_
  obtain ⟨c16, hw⟩ := wp_ck hw
  refine G_callV (As := []) (s_X5_isSound hs a13 h10 _ (wp_cl hw)) ca_X5_isSound w_764 w_765 (ci := 5) rfl (by decide) w_763 c16 (Nat.le_of_ble_eq_true rfl) (Nat.le_of_ble_eq_true rfl) rfl (Nat.le_of_ble_eq_true rfl) (Nat.le_of_ble_eq_true rfl) (Nat.le_of_ble_eq_true rfl) dX7_readFlue_25 rfl (fun v h15 hq => ?_)
  obtain ⟨r14, rfl, hw⟩ := hq
  refine G.cse (cs' := (0, 0)) rfl ?_
  show GZ _ _ _ _ _ _ _ 28 _ (.int r14 :: []) _ _
  have hw := wp_if hw
  refine G_if_eq (tgt := 40) dX7_readFlue_28 rfl (fun c17 => ?_) (fun c17 => ?_)
  · have hw := hw.1 c17
    exact G_vreturn rfl dX7_readFlue_40 ⟨rfl, wp_ret hw⟩
  · have hw := hw.2 c17
    refine G_aload_n dX7_readFlue_31 rfl ?_
    obtain ⟨c18, hw⟩ := wp_ck hw
    refine G_getR fl_X7_valley w_562 dX7_readFlue_32 c18 ?_
    obtain ⟨a19, ea19, hw⟩ := wp_rq hw
    refine G.sure ea19 ?_
    refine G_iconst (v := (1 : Int32)) dX7_readFlue_35 (by decide) ?_
    refine G_lload_n dX7_readFlue_36 rfl ?_
    obtain ⟨c22, hw⟩ := wp_ck hw
    refine G_callV (As := [.int (1 : Int32), .long r4]) (s_X6_enter hs a19 (1 : Int32) r4 h15 _ (wp_cl hw)) ca_X6_enter w_768 w_769 (ci := 6) rfl (by decide) w_767 c22 (Nat.le_of_ble_eq_true rfl) (Nat.le_of_ble_eq_true rfl) rfl (Nat.le_of_ble_eq_true rfl) (Nat.le_of_ble_eq_true rfl) (Nat.le_of_ble_eq_true rfl) dX7_readFlue_37 rfl (fun v h21 hq => ?_)
    obtain ⟨rfl, hw⟩ := hq
    refine G.cse (cs' := (0, 0)) rfl ?_
    show GZ _ _ _ _ _ _ _ 40 _ [] _ _
    exact G_vreturn rfl dX7_readFlue_40 ⟨rfl, wp_ret hw⟩
set_option maxHeartbeats 4000000 in
set_option maxRecDepth 100000 in
theorem s_X5_toldHere {Γ : GX} (hs : SF Γ) {N : Nat} (l0 : Nat) (l1 : Nat) (l2 : Int32) (h : PH) (Q : Int32 → PH → Prop) (hw : wp (f_X5_toldHere N l0 l1 l2 h) Q) : Spec Γ yX5_toldHere cX5_toldHere 4 (some .int) (2, 0, 0) [.ref l0, .ref l1, .int l2] h (q_i Q) := by
  refine Spec.of (by decide) (Nat.le_of_ble_eq_true rfl) [some (.ref l0), some (.ref l1), some (.int l2), none] rfl ?_
  unfold f_X5_toldHere at hw
  refine G_aload_n dX5_toldHere_0 rfl ?_
  obtain ⟨c3, hw⟩ := wp_ck hw
  refine G_callV (As := []) (s_X5_isAtName hs l0 h _ (wp_cl hw)) ca_X5_isAtName w_724 w_725 (ci := 5) rfl (by decide) w_789 c3 (Nat.le_of_ble_eq_true rfl) (Nat.le_of_ble_eq_true rfl) rfl (Nat.le_of_ble_eq_true rfl) (Nat.le_of_ble_eq_true rfl) (Nat.le_of_ble_eq_true rfl) dX5_toldHere_1 rfl (fun v h2 hq => ?_)
  obtain ⟨r1, rfl, hw⟩ := hq
  refine G.cse (cs' := (0, 0)) rfl ?_
  show GZ _ _ _ _ _ _ _ 4 _ (.int r1 :: []) _ _
  have hw := wp_if hw
  refine G_if_ne (tgt := 14) dX5_toldHere_4 rfl (fun c4 => ?_) (fun c4 => ?_)
  · have hw := hw.2 c4
    refine G_aload_n dX5_toldHere_14 rfl ?_
    refine G_iload_n dX5_toldHere_15 rfl ?_
    refine G_aload_n dX5_toldHere_16 rfl ?_
    obtain ⟨c5, hw⟩ := wp_ck hw
    refine G_getJ fl_X5_name w_178 dX5_toldHere_17 c5 ?_
    obtain ⟨c8, hw⟩ := wp_ck hw
    refine G_callV (As := [.int l2, .long (hJ h2 l0 6)]) (s_X6_find hs l1 l2 (hJ h2 l0 6) h2 _ (wp_cl hw)) ca_X6_find w_732 w_733 (ci := 6) rfl (by decide) w_790 c8 (Nat.le_of_ble_eq_true rfl) (Nat.le_of_ble_eq_true rfl) rfl (Nat.le_of_ble_eq_true rfl) (Nat.le_of_ble_eq_true rfl) (Nat.le_of_ble_eq_true rfl) dX5_toldHere_20 rfl (fun v h7 hq => ?_)
    obtain ⟨r6, rfl, hw⟩ := hq
    refine G.cse (cs' := (0, 0)) rfl ?_
    show GZ _ _ _ _ _ _ _ 23 _ (.int r6 :: []) _ _
    refine G_istore_n (lv' := [some (.ref l0), some (.ref l1), some (.int l2), some (.int r6)]) dX5_toldHere_23 (Nat.le_of_ble_eq_true rfl) rfl ?_
    refine G_iload_n dX5_toldHere_24 rfl ?_
    refine G_iconst (v := (-1 : Int32)) dX5_toldHere_25 (by decide) ?_
    have hw := wp_if hw
    refine G_icmp_ne (tgt := 34) dX5_toldHere_26 rfl (fun c9 => ?_) (fun c9 => ?_)
    · have hw := hw.2 c9
      refine G_iload_n dX5_toldHere_34 rfl ?_
      exact G_ireturn rfl dX5_toldHere_35 ⟨_, rfl, wp_ret hw⟩
    · have hw := hw.1 c9
      refine G_aload_n dX5_toldHere_29 rfl ?_
      refine G_iconst (v := (2 : Int32)) dX5_toldHere_30 (by decide) ?_
      obtain ⟨c12, hw⟩ := wp_ck hw
      refine G_callV (As := [.int (2 : Int32)]) (s_X5_fail hs l0 (2 : Int32) h7 _ (wp_cl hw)) ca_X5_fail w_715 w_716 (ci := 5) rfl (by decide) w_742 c12 (Nat.le_of_ble_eq_true rfl) (Nat.le_of_ble_eq_true rfl) rfl (Nat.le_of_ble_eq_true rfl) (Nat.le_of_ble_eq_true rfl) (Nat.le_of_ble_eq_true rfl) dX5_toldHere_31 rfl (fun v h11 hq => ?_)
      obtain ⟨rfl, hw⟩ := hq
      refine G.cse (cs' := (0, 0)) rfl ?_
      show GZ _ _ _ _ _ _ _ 34 _ [] _ _
      refine G_iload_n dX5_toldHere_34 rfl ?_
      exact G_ireturn rfl dX5_toldHere_35 ⟨_, rfl, wp_ret hw⟩
  · have hw := hw.1 c4
    refine G_aload_n dX5_toldHere_7 rfl ?_
    refine G_iconst (v := (1 : Int32)) dX5_toldHere_8 (by decide) ?_
    obtain ⟨c15, hw⟩ := wp_ck hw
    refine G_callV (As := [.int (1 : Int32)]) (s_X5_fail hs l0 (1 : Int32) h2 _ (wp_cl hw)) ca_X5_fail w_715 w_716 (ci := 5) rfl (by decide) w_742 c15 (Nat.le_of_ble_eq_true rfl) (Nat.le_of_ble_eq_true rfl) rfl (Nat.le_of_ble_eq_true rfl) (Nat.le_of_ble_eq_true rfl) (Nat.le_of_ble_eq_true rfl) dX5_toldHere_9 rfl (fun v h14 hq => ?_)
    obtain ⟨rfl, hw⟩ := hq
    refine G.cse (cs' := (0, 0)) rfl ?_
    show GZ _ _ _ _ _ _ _ 12 _ [] _ _
    refine G_iconst (v := (-1 : Int32)) dX5_toldHere_12 (by decide) ?_
    exact G_ireturn rfl dX5_toldHere_13 ⟨_, rfl, wp_ret hw⟩
set_option maxHeartbeats 4000000 in
set_option maxRecDepth 100000 in
theorem s_X7_readHouse {Γ : GX} (hs : SF Γ) {N : Nat} (l0 : Nat) (h : PH) (Q : Unit → PH → Prop) (hw : wp (f_X7_readHouse N l0 h) Q) : Spec Γ yX7_readHouse cX7_readHouse 5 none (7, 0, 0) [.ref l0] h (q_u Q) := by
  refine Spec.of (by decide) (Nat.le_of_ble_eq_true rfl) [some (.ref l0), none, none, none, none] rfl ?_
  unfold f_X7_readHouse at hw
  refine G_aload_n dX7_readHouse_0 rfl ?_
  refine G_iconst (v := (2 : Int32)) dX7_readHouse_1 (by decide) ?_
  refine G_iconst (v := (4 : Int32)) dX7_readHouse_2 (by decide) ?_
  obtain ⟨c3, hw⟩ := wp_ck hw
  refine G_callV (As := [.int (2 : Int32), .int (4 : Int32)]) (s_X7_oneMore hs l0 (2 : Int32) (4 : Int32) h _ (wp_cl hw)) ca_X7_oneMore w_712 w_3 (ci := 7) rfl (by decide) w_710 c3 (Nat.le_of_ble_eq_true rfl) (Nat.le_of_ble_eq_true rfl) rfl (Nat.le_of_ble_eq_true rfl) (Nat.le_of_ble_eq_true rfl) (Nat.le_of_ble_eq_true rfl) dX7_readHouse_3 rfl (fun v h2 hq => ?_)
  obtain ⟨r1, rfl, hw⟩ := hq
  refine G.cse (cs' := (0, 0)) rfl ?_
  show GZ _ _ _ _ _ _ _ 6 _ (.int r1 :: []) _ _
  refine G_istore_n (lv' := [some (.ref l0), some (.int r1), none, none, none]) dX7_readHouse_6 (Nat.le_of_ble_eq_true rfl) rfl ?_
  refine G_aload_n dX7_readHouse_7 rfl ?_
  obtain ⟨c6, hw⟩ := wp_ck hw
  refine G_callV (As := []) (s_X7_newName hs l0 h2 _ (wp_cl hw)) ca_X7_newName w_721 w_4 (ci := 7) rfl (by decide) w_719 c6 (Nat.le_of_ble_eq_true rfl) (Nat.le_of_ble_eq_true rfl) rfl (Nat.le_of_ble_eq_true rfl) (Nat.le_of_ble_eq_true rfl) (Nat.le_of_ble_eq_true rfl) dX7_readHouse_8 rfl (fun v h5 hq => ?_)
  obtain ⟨r4, rfl, hw⟩ := hq
  refine G.cse (cs' := (0, 0)) rfl ?_
  show GZ _ _ _ _ _ _ _ 11 _ (.long r4 :: []) _ _
  refine G_lstore_n (lv' := [some (.ref l0), some (.int r1), some (.long r4), none, none]) dX7_readHouse_11 (Nat.le_of_ble_eq_true rfl) rfl ?_
  refine G_aload_n dX7_readHouse_12 rfl ?_
  obtain ⟨c7, hw⟩ := wp_ck hw
  refine G_getR fl_X7_tape w_561 dX7_readHouse_13 c7 ?_
  obtain ⟨a8, ea8, hw⟩ := wp_rq hw
  refine G.sure ea8 ?_
  refine G_getsW hs 6 rfl (by decide) w_783 dX7_readHouse_16 ?_
  obtain ⟨c11, hw⟩ := wp_ck hw
  refine G_callV (As := [.ref (hW h5 6)]) (s_X5_expect hs a8 (hW h5 6) h5 _ (wp_cl hw)) ca_X5_expect w_738 w_739 (ci := 5) rfl (by decide) w_737 c11 (Nat.le_of_ble_eq_true rfl) (Nat.le_of_ble_eq_true rfl) rfl (Nat.le_of_ble_eq_true rfl) (Nat.le_of_ble_eq_true rfl) (Nat.le_of_ble_eq_true rfl) dX7_readHouse_19 rfl (fun v h10 hq => ?_)
  obtain ⟨rfl, hw⟩ := hq
  refine G.cse (cs' := (0, 0)) rfl ?_
  show GZ _ _ _ _ _ _ _ 22 _ [] _ _
  refine G_aload_n dX7_readHouse_22 rfl ?_
  obtain ⟨c12, hw⟩ := wp_ck hw
  refine G_getR fl_X7_tape w_561 dX7_readHouse_23 c12 ?_
  obtain ⟨a13, ea13, hw⟩ := wp_rq hw
  refine G.sure ea13 ?_
  refine G_aload_n dX7_readHouse_26 rfl ?_
  refine G_getR fl_X7_valley w_562 dX7_readHouse_27 c12 ?_
  obtain ⟨a14, ea14, hw⟩ := wp_rq hw
  refine G.sure ea14 ?_
  refine G_iconst (v := (1 : Int32)) dX7_readHouse_30 (by decide) ?_
  obtain ⟨c17, hw⟩ := wp_ck hw
  refine G_callV (As := [.ref a14, .int (1 : Int32)]) (s_X5_toldHere hs a13 a14 (1 : Int32) h10 _ (wp_cl hw)) ca_X5_toldHere w_786 w_787 (ci := 5) rfl (by decide) w_785 c17 (Nat.le_of_ble_eq_true rfl) (Nat.le_of_ble_eq_true rfl) rfl (Nat.le_of_ble_eq_true rfl) (Nat.le_of_ble_eq_true rfl) (Nat.le_of_ble_eq_true rfl) dX7_readHouse_31 rfl (fun v h16 hq => ?_)
  obtain ⟨r15, rfl, hw⟩ := hq
  refine G.cse (cs' := (0, 0)) rfl ?_
  show GZ _ _ _ _ _ _ _ 34 _ (.int r15 :: []) _ _
  refine G_istore (lv' := [some (.ref l0), some (.int r1), some (.long r4), none, some (.int r15)]) dX7_readHouse_34 (Nat.le_of_ble_eq_true rfl) rfl ?_
  refine G_aload_n dX7_readHouse_36 rfl ?_
  obtain ⟨c18, hw⟩ := wp_ck hw
  refine G_getR fl_X7_tape w_561 dX7_readHouse_37 c18 ?_
  obtain ⟨a19, ea19, hw⟩ := wp_rq hw
  refine G.sure ea19 ?_
  obtain ⟨c22, hw⟩ := wp_ck hw
  refine G_callV (As := []) (s_X5_step hs a19 h16 _ (wp_cl hw)) ca_X5_step w_586 w_587 (ci := 5) rfl (by decide) w_718 c22 (Nat.le_of_ble_eq_true rfl) (Nat.le_of_ble_eq_true rfl) rfl (Nat.le_of_ble_eq_true rfl) (Nat.le_of_ble_eq_true rfl) (Nat.le_of_ble_eq_true rfl) dX7_readHouse_40 rfl (fun v h21 hq => ?_)
  obtain ⟨rfl, hw⟩ := hq
  refine G.cse (cs' := (0, 0)) rfl ?_
  show GZ _ _ _ _ _ _ _ 43 _ [] _ _
  refine G_aload_n dX7_readHouse_43 rfl ?_
  obtain ⟨c23, hw⟩ := wp_ck hw
  refine G_getR fl_X7_tape w_561 dX7_readHouse_44 c23 ?_
  obtain ⟨a24, ea24, hw⟩ := wp_rq hw
  refine G.sure ea24 ?_
  refine G_bipush (v := (59 : Int32)) dX7_readHouse_47 (by decide) ?_
  obtain ⟨c27, hw⟩ := wp_ck hw
  refine G_callV (As := [.int (59 : Int32)]) (s_X5_expectSign hs a24 (59 : Int32) h21 _ (wp_cl hw)) ca_X5_expectSign w_756 w_757 (ci := 5) rfl (by decide) w_755 c27 (Nat.le_of_ble_eq_true rfl) (Nat.le_of_ble_eq_true rfl) rfl (Nat.le_of_ble_eq_true rfl) (Nat.le_of_ble_eq_true rfl) (Nat.le_of_ble_eq_true rfl) dX7_readHouse_49 rfl (fun v h26 hq => ?_)
  obtain ⟨rfl, hw⟩ := hq
  refine G.cse (cs' := (0, 0)) rfl ?_
  show GZ _ _ _ _ _ _ _ 52 _ [] _ _
  refine G_aload_n dX7_readHouse_52 rfl ?_
  obtain ⟨c28, hw⟩ := wp_ck hw
  refine G_getR fl_X7_tape w_561 dX7_readHouse_53 c28 ?_
  obtain ⟨a29, ea29, hw⟩ := wp_rq hw
  refine G.sure ea29 ?_
  obtain ⟨c32, hw⟩ := wp_ck hw
  refine G_callV (As := []) (s_X5_isSound hs a29 h26 _ (wp_cl hw)) ca_X5_isSound w_764 w_765 (ci := 5) rfl (by decide) w_763 c32 (Nat.le_of_ble_eq_true rfl) (Nat.le_of_ble_eq_true rfl) rfl (Nat.le_of_ble_eq_true rfl) (Nat.le_of_ble_eq_true rfl) (Nat.le_of_ble_eq_true rfl) dX7_readHouse_56 rfl (fun v h31 hq => ?_)
  obtain ⟨r30, rfl, hw⟩ := hq
  refine G.cse (cs' := (0, 0)) rfl ?_
  show GZ _ _ _ _ _ _ _ 59 _ (.int r30 :: []) _ _
  have hw := wp_if hw
  refine G_if_eq (tgt := 87) dX7_readHouse_59 rfl (fun c33 => ?_) (fun c33 => ?_)
  · have hw := hw.1 c33
    exact G_vreturn rfl dX7_readHouse_87 ⟨rfl, wp_ret hw⟩
  · have hw := hw.2 c33
    refine G_iload_n dX7_readHouse_62 rfl ?_
    refine G_iconst (v := (4 : Int32)) dX7_readHouse_63 (by decide) ?_
    have hw := wp_if hw
    refine G_icmp_ge (tgt := 87) dX7_readHouse_64 rfl (fun c34 => ?_) (fun c34 => ?_)
    · have hw := hw.1 c34
      exact G_vreturn rfl dX7_readHouse_87 ⟨rfl, wp_ret hw⟩
    · have hw := hw.2 c34
      refine G_aload_n dX7_readHouse_67 rfl ?_
      obtain ⟨c35, hw⟩ := wp_ck hw
      refine G_getR fl_X7_valley w_562 dX7_readHouse_68 c35 ?_
      obtain ⟨a36, ea36, hw⟩ := wp_rq hw
      refine G.sure ea36 ?_
      obtain ⟨c37, hw⟩ := wp_ck hw
      refine G_getNR fl_X6_houseFlue w_445 dX7_readHouse_71 c37 ?_
      obtain ⟨a38, ea38, hw⟩ := wp_rq hw
      refine G.sure ea38 ?_
      refine G_iload_n dX7_readHouse_74 rfl ?_
      refine G_iload dX7_readHouse_75 rfl ?_
      obtain ⟨c39, hw⟩ := wp_ck hw
      obtain ⟨c40, hw⟩ := wp_ck hw
      refine G_iastore dX7_readHouse_77 c39 c40 ?_
      refine G.nmh fun h41 eh41 => ?_
      have hw := wp_bd hw h41 eh41
      refine G_aload_n dX7_readHouse_78 rfl ?_
      obtain ⟨c42, hw⟩ := wp_ck hw
      refine G_getR fl_X7_valley w_562 dX7_readHouse_79 c42 ?_
      obtain ⟨a43, ea43, hw⟩ := wp_rq hw
      refine G.sure ea43 ?_
      refine G_iconst (v := (2 : Int32)) dX7_readHouse_82 (by decide) ?_
      refine G_lload_n dX7_readHouse_83 rfl ?_
      obtain ⟨c46, hw⟩ := wp_ck hw
      refine G_callV (As := [.int (2 : Int32), .long r4]) (s_X6_enter hs a43 (2 : Int32) r4 h41 _ (wp_cl hw)) ca_X6_enter w_768 w_769 (ci := 6) rfl (by decide) w_767 c46 (Nat.le_of_ble_eq_true rfl) (Nat.le_of_ble_eq_true rfl) rfl (Nat.le_of_ble_eq_true rfl) (Nat.le_of_ble_eq_true rfl) (Nat.le_of_ble_eq_true rfl) dX7_readHouse_84 rfl (fun v h45 hq => ?_)
      obtain ⟨rfl, hw⟩ := hq
      refine G.cse (cs' := (0, 0)) rfl ?_
      show GZ _ _ _ _ _ _ _ 87 _ [] _ _
      exact G_vreturn rfl dX7_readHouse_87 ⟨rfl, wp_ret hw⟩
set_option maxHeartbeats 4000000 in
set_option maxRecDepth 100000 in
theorem f_X7_readStock_106_ok {Γ : GX} (hs : SF Γ) {N : Nat} (l0 : Nat) (l3 : Int32) (l4 : Int32) (h : PH) (Q : Unit → PH → Prop) (hw : wp (f_X7_readStock_106 N l0 l3 l4 h) Q) : G Γ yX7_readStock cX7_readStock 6 none (7, 0, 0) 106 [some (.ref l0), none, none, some (.int l3), some (.int l4), none] [] h (0, 0) (q_u Q) := by
  unfold f_X7_readStock_106 at hw
  refine G_aload_n dX7_readStock_106 rfl ?_
  obtain ⟨c1, hw⟩ := wp_ck hw
  refine G_getR fl_X7_tape w_561 dX7_readStock_107 c1 ?_
  obtain ⟨a2, ea2, hw⟩ := wp_rq hw
  refine G.sure ea2 ?_
  obtain ⟨c5, hw⟩ := wp_ck hw
  refine G_callV (As := []) (s_X5_step hs a2 h _ (wp_cl hw)) ca_X5_step w_586 w_587 (ci := 5) rfl (by decide) w_718 c5 (Nat.le_of_ble_eq_true rfl) (Nat.le_of_ble_eq_true rfl) rfl (Nat.le_of_ble_eq_true rfl) (Nat.le_of_ble_eq_true rfl) (Nat.le_of_ble_eq_true rfl) dX7_readStock_110 rfl (fun v h4 hq => ?_)
  obtain ⟨rfl, hw⟩ := hq
  refine G.cse (cs' := (0, 0)) rfl ?_
  show GZ _ _ _ _ _ _ _ 113 _ [] _ _
  refine G_aload_n dX7_readStock_113 rfl ?_
  obtain ⟨c6, hw⟩ := wp_ck hw
  refine G_getR fl_X7_tape w_561 dX7_readStock_114 c6 ?_
  obtain ⟨a7, ea7, hw⟩ := wp_rq hw
  refine G.sure ea7 ?_
  refine G_iconst (v := (0 : Int32)) dX7_readStock_117 (by decide) ?_
  refine G_bipush (v := (99 : Int32)) dX7_readStock_118 (by decide) ?_
  obtain ⟨c10, hw⟩ := wp_ck hw
  refine G_callV (As := [.int (0 : Int32), .int (99 : Int32)]) (s_X5_expectNumber hs a7 (0 : Int32) (99 : Int32) h4 _ (wp_cl hw)) ca_X5_expectNumber w_744 w_745 (ci := 5) rfl (by decide) w_743 c10 (Nat.le_of_ble_eq_true rfl) (Nat.le_of_ble_eq_true rfl) rfl (Nat.le_of_ble_eq_true rfl) (Nat.le_of_ble_eq_true rfl) (Nat.le_of_ble_eq_true rfl) dX7_readStock_120 rfl (fun v h9 hq => ?_)
  obtain ⟨r8, rfl, hw⟩ := hq
  refine G.cse (cs' := (0, 0)) rfl ?_
  show GZ _ _ _ _ _ _ _ 123 _ (.int r8 :: []) _ _
  refine G_istore (lv' := [some (.ref l0), none, none, some (.int l3), some (.int l4), some (.int r8)]) dX7_readStock_123 (Nat.le_of_ble_eq_true rfl) rfl ?_
  refine G_aload_n dX7_readStock_125 rfl ?_
  obtain ⟨c11, hw⟩ := wp_ck hw
  refine G_getR fl_X7_tape w_561 dX7_readStock_126 c11 ?_
  obtain ⟨a12, ea12, hw⟩ := wp_rq hw
  refine G.sure ea12 ?_
  refine G_bipush (v := (59 : Int32)) dX7_readStock_129 (by decide) ?_
  obtain ⟨c15, hw⟩ := wp_ck hw
  refine G_callV (As := [.int (59 : Int32)]) (s_X5_expectSign hs a12 (59 : Int32) h9 _ (wp_cl hw)) ca_X5_expectSign w_756 w_757 (ci := 5) rfl (by decide) w_755 c15 (Nat.le_of_ble_eq_true rfl) (Nat.le_of_ble_eq_true rfl) rfl (Nat.le_of_ble_eq_true rfl) (Nat.le_of_ble_eq_true rfl) (Nat.le_of_ble_eq_true rfl) dX7_readStock_131 rfl (fun v h14 hq => ?_)
  obtain ⟨rfl, hw⟩ := hq
  refine G.cse (cs' := (0, 0)) rfl ?_
  show GZ _ _ _ _ _ _ _ 134 _ [] _ _
  refine G_iload dX7_readStock_134 rfl ?_
  have hw := wp_if hw
  refine G_if_eq (tgt := 175) dX7_readStock_136 rfl (fun c16 => ?_) (fun c16 => ?_)
  · have hw := hw.1 c16
    exact G_vreturn rfl dX7_readStock_175 ⟨rfl, wp_ret hw⟩
  · have hw := hw.2 c16
    refine G_aload_n dX7_readStock_139 rfl ?_
    obtain ⟨c17, hw⟩ := wp_ck hw
    refine G_getR fl_X7_tape w_561 dX7_readStock_140 c17 ?_
    obtain ⟨a18, ea18, hw⟩ := wp_rq hw
    refine G.sure ea18 ?_
    obtain ⟨c21, hw⟩ := wp_ck hw
    refine G_callV (As := []) (s_X5_isSound hs a18 h14 _ (wp_cl hw)) ca_X5_isSound w_764 w_765 (ci := 5) rfl (by decide) w_763 c21 (Nat.le_of_ble_eq_true rfl) (Nat.le_of_ble_eq_true rfl) rfl (Nat.le_of_ble_eq_true rfl) (Nat.le_of_ble_eq_true rfl) (Nat.le_of_ble_eq_true rfl) dX7_readStock_143 rfl (fun v h20 hq => ?_)
    obtain ⟨r19, rfl, hw⟩ := hq
    refine G.cse (cs' := (0, 0)) rfl ?_
    show GZ _ _ _ _ _ _ _ 146 _ (.int r19 :: []) _ _
    have hw := wp_if hw
    refine G_if_eq (tgt := 175) dX7_readStock_146 rfl (fun c22 => ?_) (fun c22 => ?_)
    · have hw := hw.1 c22
      exact G_vreturn rfl dX7_readStock_175 ⟨rfl, wp_ret hw⟩
    · have hw := hw.2 c22
      refine G_aload_n dX7_readStock_149 rfl ?_
      obtain ⟨c23, hw⟩ := wp_ck hw
      refine G_getR fl_X7_valley w_562 dX7_readStock_150 c23 ?_
      obtain ⟨a24, ea24, hw⟩ := wp_rq hw
      refine G.sure ea24 ?_
      refine G_dup dX7_readStock_153 rfl ?_
      obtain ⟨c25, hw⟩ := wp_ck hw
      refine G_getNI fl_X6_stockTold w_450 dX7_readStock_154 c25 ?_
      refine G_iconst (v := (1 : Int32)) dX7_readStock_157 (by decide) ?_
      refine G_iload_n dX7_readStock_158 rfl ?_
      refine G_ishl dX7_readStock_159 ?_
      refine G_ior dX7_readStock_160 ?_
      refine G_putNI fl_X6_stockTold w_450 dX7_readStock_161 c25 ?_
      refine G.nmh fun h26 eh26 => ?_
      have hw := wp_bd hw h26 eh26
      refine G_aload_n dX7_readStock_164 rfl ?_
      obtain ⟨c27, hw⟩ := wp_ck hw
      refine G_getR fl_X7_valley w_562 dX7_readStock_165 c27 ?_
      obtain ⟨a28, ea28, hw⟩ := wp_rq hw
      refine G.sure ea28 ?_
      obtain ⟨c29, hw⟩ := wp_ck hw
      refine G_getNR fl_X6_stock w_448 dX7_readStock_168 c29 ?_
      obtain ⟨a30, ea30, hw⟩ := wp_rq hw
      refine G.sure ea30 ?_
      refine G_iload_n dX7_readStock_171 rfl ?_
      refine G_iload dX7_readStock_172 rfl ?_
      obtain ⟨c31, hw⟩ := wp_ck hw
      obtain ⟨c32, hw⟩ := wp_ck hw
      refine G_iastore dX7_readStock_174 c31 c32 ?_
      refine G.nmh fun h33 eh33 => ?_
      have hw := wp_bd hw h33 eh33
      exact G_vreturn rfl dX7_readStock_175 ⟨rfl, wp_ret hw⟩
set_option maxHeartbeats 4000000 in
set_option maxRecDepth 100000 in
theorem f_X7_readStock_77_ok {Γ : GX} (hs : SF Γ) {N : Nat} (s0 : Int32) (l0 : Nat) (l3 : Int32) (h : PH) (Q : Unit → PH → Prop) (hw : wp (f_X7_readStock_77 N s0 l0 l3 h) Q) : G Γ yX7_readStock cX7_readStock 6 none (7, 0, 0) 77 [some (.ref l0), none, none, some (.int l3), none, none] [.int s0] h (0, 0) (q_u Q) := by
  unfold f_X7_readStock_77 at hw
  refine G_istore (lv' := [some (.ref l0), none, none, some (.int l3), some (.int s0), none]) dX7_readStock_77 (Nat.le_of_ble_eq_true rfl) rfl ?_
  refine G_iload dX7_readStock_79 rfl ?_
  have hw := wp_if hw
  refine G_if_eq (tgt := 106) dX7_readStock_81 rfl (fun c1 => ?_) (fun c1 => ?_)
  · have hw := hw.1 c1
    refine G.less [some (.ref l0), none, none, some (.int l3), some (.int s0), none] ⟨rfl, ⟨rfl, ⟨rfl, trivial⟩⟩⟩ ?_
    exact f_X7_readStock_106_ok hs _ _ _ h Q hw
  · have hw := hw.2 c1
    refine G_aload_n dX7_readStock_84 rfl ?_
    obtain ⟨c2, hw⟩ := wp_ck hw
    refine G_getR fl_X7_valley w_562 dX7_readStock_85 c2 ?_
    obtain ⟨a3, ea3, hw⟩ := wp_rq hw
    refine G.sure ea3 ?_
    obtain ⟨c4, hw⟩ := wp_ck hw
    refine G_getNI fl_X6_stockTold w_450 dX7_readStock_88 c4 ?_
    refine G_iload_n dX7_readStock_91 rfl ?_
    refine G_ishr dX7_readStock_92 ?_
    refine G_iconst (v := (1 : Int32)) dX7_readStock_93 (by decide) ?_
    refine G_iand dX7_readStock_94 ?_
    have hw := wp_if hw
    refine G_if_eq (tgt := 106) dX7_readStock_95 rfl (fun c5 => ?_) (fun c5 => ?_)
    · have hw := hw.1 c5
      refine G.less [some (.ref l0), none, none, some (.int l3), some (.int s0), none] ⟨rfl, ⟨rfl, ⟨rfl, trivial⟩⟩⟩ ?_
      exact f_X7_readStock_106_ok hs _ _ _ h Q hw
    · have hw := hw.2 c5
      refine G_aload_n dX7_readStock_98 rfl ?_
      refine G_getR fl_X7_tape w_561 dX7_readStock_99 c2 ?_
      obtain ⟨a6, ea6, hw⟩ := wp_rq hw
      refine G.sure ea6 ?_
      refine G_iconst (v := (3 : Int32)) dX7_readStock_102 (by decide) ?_
      obtain ⟨c9, hw⟩ := wp_ck hw
      refine G_callV (As := [.int (3 : Int32)]) (s_X5_fail hs a6 (3 : Int32) h _ (wp_cl hw)) ca_X5_fail w_715 w_716 (ci := 5) rfl (by decide) w_714 c9 (Nat.le_of_ble_eq_true rfl) (Nat.le_of_ble_eq_true rfl) rfl (Nat.le_of_ble_eq_true rfl) (Nat.le_of_ble_eq_true rfl) (Nat.le_of_ble_eq_true rfl) dX7_readStock_103 rfl (fun v h8 hq => ?_)
      obtain ⟨rfl, hw⟩ := hq
      refine G.cse (cs' := (0, 0)) rfl ?_
      show GZ _ _ _ _ _ _ _ 106 _ [] _ _
      refine G.less [some (.ref l0), none, none, some (.int l3), some (.int s0), none] ⟨rfl, ⟨rfl, ⟨rfl, trivial⟩⟩⟩ ?_
      exact f_X7_readStock_106_ok hs _ _ _ h8 Q hw
set_option maxHeartbeats 4000000 in
set_option maxRecDepth 100000 in
theorem f_X7_readStock_76_ok {Γ : GX} (hs : SF Γ) {N : Nat} (l0 : Nat) (l3 : Int32) (h : PH) (Q : Unit → PH → Prop) (hw : wp (f_X7_readStock_76 N l0 l3 h) Q) : G Γ yX7_readStock cX7_readStock 6 none (7, 0, 0) 76 [some (.ref l0), none, none, some (.int l3), none, none] [] h (0, 0) (q_u Q) := by
  unfold f_X7_readStock_76 at hw
  refine G_iconst (v := (0 : Int32)) dX7_readStock_76 (by decide) ?_
  refine G.less [some (.ref l0), none, none, some (.int l3), none, none] ⟨rfl, ⟨rfl, trivial⟩⟩ ?_
  exact f_X7_readStock_77_ok hs _ _ _ h Q hw
set_option maxHeartbeats 4000000 in
set_option maxRecDepth 100000 in
theorem s_X7_readStock {Γ : GX} (hs : SF Γ) {N : Nat} (l0 : Nat) (h : PH) (Q : Unit → PH → Prop) (hw : wp (f_X7_readStock N l0 h) Q) : Spec Γ yX7_readStock cX7_readStock 6 none (7, 0, 0) [.ref l0] h (q_u Q) := by
  refine Spec.of (by decide) (Nat.le_of_ble_eq_true rfl) [some (.ref l0), none, none, none, none, none] rfl ?_
  unfold f_X7_readStock at hw
  refine G_aload_n dX7_readStock_0 rfl ?_
  obtain ⟨c1, hw⟩ := wp_ck hw
  refine G_getR fl_X7_tape w_561 dX7_readStock_1 c1 ?_
  obtain ⟨a2, ea2, hw⟩ := wp_rq hw
  refine G.sure ea2 ?_
  obtain ⟨c5, hw⟩ := wp_ck hw
  refine G_callV (As := []) (s_X5_step hs a2 h _ (wp_cl hw)) ca_X5_step w_586 w_587 (ci := 5) rfl (by decide) w_718 c5 (Nat.le_of_ble_eq_true rfl) (Nat.le_of_ble_eq_true rfl) rfl (Nat.le_of_ble_eq_true rfl) (Nat.le_of_ble_eq_true rfl) (Nat.le_of_ble_eq_true rfl) dX7_readStock_4 rfl (fun v h4 hq => ?_)
  obtain ⟨rfl, hw⟩ := hq
  refine G.cse (cs' := (0, 0)) rfl ?_
  show GZ _ _ _ _ _ _ _ 7 _ [] _ _
  refine G_aload_n dX7_readStock_7 rfl ?_
  obtain ⟨c6, hw⟩ := wp_ck hw
  refine G_getR fl_X7_tape w_561 dX7_readStock_8 c6 ?_
  obtain ⟨a7, ea7, hw⟩ := wp_rq hw
  refine G.sure ea7 ?_
  refine G_aload_n dX7_readStock_11 rfl ?_
  refine G_getR fl_X7_valley w_562 dX7_readStock_12 c6 ?_
  obtain ⟨a8, ea8, hw⟩ := wp_rq hw
  refine G.sure ea8 ?_
  refine G_iconst (v := (2 : Int32)) dX7_readStock_15 (by decide) ?_
  obtain ⟨c11, hw⟩ := wp_ck hw
  refine G_callV (As := [.ref a8, .int (2 : Int32)]) (s_X5_toldHere hs a7 a8 (2 : Int32) h4 _ (wp_cl hw)) ca_X5_toldHere w_786 w_787 (ci := 5) rfl (by decide) w_785 c11 (Nat.le_of_ble_eq_true rfl) (Nat.le_of_ble_eq_true rfl) rfl (Nat.le_of_ble_eq_true rfl) (Nat.le_of_ble_eq_true rfl) (Nat.le_of_ble_eq_true rfl) dX7_readStock_16 rfl (fun v h10 hq => ?_)
  obtain ⟨r9, rfl, hw⟩ := hq
  refine G.cse (cs' := (0, 0)) rfl ?_
  show GZ _ _ _ _ _ _ _ 19 _ (.int r9 :: []) _ _
  refine G_istore_n (lv' := [some (.ref l0), some (.int r9), none, none, none, none]) dX7_readStock_19 (Nat.le_of_ble_eq_true rfl) rfl ?_
  refine G_aload_n dX7_readStock_20 rfl ?_
  obtain ⟨c12, hw⟩ := wp_ck hw
  refine G_getR fl_X7_tape w_561 dX7_readStock_21 c12 ?_
  obtain ⟨a13, ea13, hw⟩ := wp_rq hw
  refine G.sure ea13 ?_
  obtain ⟨c16, hw⟩ := wp_ck hw
  refine G_callV (As := []) (s_X5_step hs a13 h10 _ (wp_cl hw)) ca_X5_step w_586 w_587 (ci := 5) rfl (by decide) w_718 c16 (Nat.le_of_ble_eq_true rfl) (Nat.le_of_ble_eq_true rfl) rfl (Nat.le_of_ble_eq_true rfl) (Nat.le_of_ble_eq_true rfl) (Nat.le_of_ble_eq_true rfl) dX7_readStock_24 rfl (fun v h15 hq => ?_)
  obtain ⟨rfl, hw⟩ := hq
  refine G.cse (cs' := (0, 0)) rfl ?_
  show GZ _ _ _ _ _ _ _ 27 _ [] _ _
  refine G_aload_n dX7_readStock_27 rfl ?_
  obtain ⟨c17, hw⟩ := wp_ck hw
  refine G_getR fl_X7_tape w_561 dX7_readStock_28 c17 ?_
  obtain ⟨a18, ea18, hw⟩ := wp_rq hw
  refine G.sure ea18 ?_
  refine G_aload_n dX7_readStock_31 rfl ?_
  refine G_getR fl_X7_valley w_562 dX7_readStock_32 c17 ?_
  obtain ⟨a19, ea19, hw⟩ := wp_rq hw
  refine G.sure ea19 ?_
  refine G_iconst (v := (0 : Int32)) dX7_readStock_35 (by decide) ?_
  obtain ⟨c22, hw⟩ := wp_ck hw
  refine G_callV (As := [.ref a19, .int (0 : Int32)]) (s_X5_toldHere hs a18 a19 (0 : Int32) h15 _ (wp_cl hw)) ca_X5_toldHere w_786 w_787 (ci := 5) rfl (by decide) w_785 c22 (Nat.le_of_ble_eq_true rfl) (Nat.le_of_ble_eq_true rfl) rfl (Nat.le_of_ble_eq_true rfl) (Nat.le_of_ble_eq_true rfl) (Nat.le_of_ble_eq_true rfl) dX7_readStock_36 rfl (fun v h21 hq => ?_)
  obtain ⟨r20, rfl, hw⟩ := hq
  refine G.cse (cs' := (0, 0)) rfl ?_
  show GZ _ _ _ _ _ _ _ 39 _ (.int r20 :: []) _ _
  refine G_istore_n (lv' := [some (.ref l0), some (.int r9), some (.int r20), none, none, none]) dX7_readStock_39 (Nat.le_of_ble_eq_true rfl) rfl ?_
  refine G_iload_n dX7_readStock_40 rfl ?_
  refine G_iconst (v := (5 : Int32)) dX7_readStock_41 (by decide) ?_
  refine G_imul dX7_readStock_42 ?_
  refine G_iload_n dX7_readStock_43 rfl ?_
  refine G_iadd dX7_readStock_44 ?_
  refine G.topi fun v23 ev23 => ?_
  have hw := wp_bd hw v23 ev23
  refine G_istore_n (lv' := [some (.ref l0), some (.int r9), some (.int r20), some (.int v23), none, none]) dX7_readStock_45 (Nat.le_of_ble_eq_true rfl) rfl ?_
  refine G_aload_n dX7_readStock_46 rfl ?_
  obtain ⟨c24, hw⟩ := wp_ck hw
  refine G_getR fl_X7_tape w_561 dX7_readStock_47 c24 ?_
  obtain ⟨a25, ea25, hw⟩ := wp_rq hw
  refine G.sure ea25 ?_
  obtain ⟨c28, hw⟩ := wp_ck hw
  refine G_callV (As := []) (s_X5_isSound hs a25 h21 _ (wp_cl hw)) ca_X5_isSound w_764 w_765 (ci := 5) rfl (by decide) w_763 c28 (Nat.le_of_ble_eq_true rfl) (Nat.le_of_ble_eq_true rfl) rfl (Nat.le_of_ble_eq_true rfl) (Nat.le_of_ble_eq_true rfl) (Nat.le_of_ble_eq_true rfl) dX7_readStock_50 rfl (fun v h27 hq => ?_)
  obtain ⟨r26, rfl, hw⟩ := hq
  refine G.cse (cs' := (0, 0)) rfl ?_
  show GZ _ _ _ _ _ _ _ 53 _ (.int r26 :: []) _ _
  have hw := wp_if hw
  refine G_if_eq (tgt := 76) dX7_readStock_53 rfl (fun c29 => ?_) (fun c29 => ?_)
  · have hw := hw.1 c29
    refine G.less [some (.ref l0), none, none, some (.int v23), none, none] ⟨rfl, ⟨rfl, trivial⟩⟩ ?_
    exact f_X7_readStock_76_ok hs _ _ h27 Q hw
  · have hw := hw.2 c29
    refine G_iload_n dX7_readStock_56 rfl ?_
    have hw := wp_if hw
    refine G_if_lt (tgt := 76) dX7_readStock_57 rfl (fun c30 => ?_) (fun c30 => ?_)
    · have hw := hw.1 c30
      refine G.less [some (.ref l0), none, none, some (.int v23), none, none] ⟨rfl, ⟨rfl, trivial⟩⟩ ?_
      exact f_X7_readStock_76_ok hs _ _ h27 Q hw
    · have hw := hw.2 c30
      refine G_iload_n dX7_readStock_60 rfl ?_
      refine G_aload_n dX7_readStock_61 rfl ?_
      obtain ⟨c31, hw⟩ := wp_ck hw
      refine G_getR fl_X7_valley w_562 dX7_readStock_62 c31 ?_
      obtain ⟨a32, ea32, hw⟩ := wp_rq hw
      refine G.sure ea32 ?_
      obtain ⟨c33, hw⟩ := wp_ck hw
      refine G_getNR fl_X6_stock w_448 dX7_readStock_65 c33 ?_
      obtain ⟨a34, ea34, hw⟩ := wp_rq hw
      refine G.sure ea34 ?_
      obtain ⟨c35, hw⟩ := wp_ck hw
      refine G_alen12 dX7_readStock_68 c35 ?_
      have hw := wp_if hw
      refine G_icmp_ge (tgt := 76) dX7_readStock_69 rfl (fun c36 => ?_) (fun c36 => ?_)
      · have hw := hw.1 c36
        refine G.less [some (.ref l0), none, none, some (.int v23), none, none] ⟨rfl, ⟨rfl, trivial⟩⟩ ?_
        exact f_X7_readStock_76_ok hs _ _ h27 Q hw
      · have hw := hw.2 c36
        refine G_iconst (v := (1 : Int32)) dX7_readStock_72 (by decide) ?_
        refine G_goto (tgt := 77) dX7_readStock_73 rfl ?_
        refine G.less [some (.ref l0), none, none, some (.int v23), none, none] ⟨rfl, ⟨rfl, trivial⟩⟩ ?_
        exact f_X7_readStock_77_ok hs _ _ _ h27 Q hw
set_option maxHeartbeats 4000000 in
set_option maxRecDepth 100000 in
theorem s_X7_readRange {Γ : GX} (hs : SF Γ) {N : Nat} (l0 : Nat) (l1 : Int32) (l2 : Int32) (h : PH) (Q : Unit → PH → Prop) (hw : wp (f_X7_readRange N l0 l1 l2 h) Q) : Spec Γ yX7_readRange cX7_readRange 5 none (7, 0, 0) [.ref l0, .int l1, .int l2] h (q_u Q) := by
  refine Spec.of (by decide) (Nat.le_of_ble_eq_true rfl) [some (.ref l0), some (.int l1), some (.int l2), none, none] rfl ?_
  unfold f_X7_readRange at hw
  refine G_aload_n dX7_readRange_0 rfl ?_
  obtain ⟨c1, hw⟩ := wp_ck hw
  refine G_getR fl_X7_tape w_561 dX7_readRange_1 c1 ?_
  obtain ⟨a2, ea2, hw⟩ := wp_rq hw
  refine G.sure ea2 ?_
  refine G_iconst (v := (0 : Int32)) dX7_readRange_4 (by decide) ?_
  refine G_sipush (v := (999 : Int32)) dX7_readRange_5 (by decide) ?_
  obtain ⟨c5, hw⟩ := wp_ck hw
  refine G_callV (As := [.int (0 : Int32), .int (999 : Int32)]) (s_X5_expectNumber hs a2 (0 : Int32) (999 : Int32) h _ (wp_cl hw)) ca_X5_expectNumber w_744 w_745 (ci := 5) rfl (by decide) w_743 c5 (Nat.le_of_ble_eq_true rfl) (Nat.le_of_ble_eq_true rfl) rfl (Nat.le_of_ble_eq_true rfl) (Nat.le_of_ble_eq_true rfl) (Nat.le_of_ble_eq_true rfl) dX7_readRange_8 rfl (fun v h4 hq => ?_)
  obtain ⟨r3, rfl, hw⟩ := hq
  refine G.cse (cs' := (0, 0)) rfl ?_
  show GZ _ _ _ _ _ _ _ 11 _ (.int r3 :: []) _ _
  refine G_istore_n (lv' := [some (.ref l0), some (.int l1), some (.int l2), some (.int r3), none]) dX7_readRange_11 (Nat.le_of_ble_eq_true rfl) rfl ?_
  refine G_aload_n dX7_readRange_12 rfl ?_
  obtain ⟨c6, hw⟩ := wp_ck hw
  refine G_getR fl_X7_tape w_561 dX7_readRange_13 c6 ?_
  obtain ⟨a7, ea7, hw⟩ := wp_rq hw
  refine G.sure ea7 ?_
  refine G_getsW hs 9 rfl (by decide) w_807 dX7_readRange_16 ?_
  obtain ⟨c10, hw⟩ := wp_ck hw
  refine G_callV (As := [.ref (hW h4 9)]) (s_X5_expect hs a7 (hW h4 9) h4 _ (wp_cl hw)) ca_X5_expect w_738 w_739 (ci := 5) rfl (by decide) w_737 c10 (Nat.le_of_ble_eq_true rfl) (Nat.le_of_ble_eq_true rfl) rfl (Nat.le_of_ble_eq_true rfl) (Nat.le_of_ble_eq_true rfl) (Nat.le_of_ble_eq_true rfl) dX7_readRange_19 rfl (fun v h9 hq => ?_)
  obtain ⟨rfl, hw⟩ := hq
  refine G.cse (cs' := (0, 0)) rfl ?_
  show GZ _ _ _ _ _ _ _ 22 _ [] _ _
  refine G_aload_n dX7_readRange_22 rfl ?_
  obtain ⟨c11, hw⟩ := wp_ck hw
  refine G_getR fl_X7_tape w_561 dX7_readRange_23 c11 ?_
  obtain ⟨a12, ea12, hw⟩ := wp_rq hw
  refine G.sure ea12 ?_
  refine G_iload_n dX7_readRange_26 rfl ?_
  refine G_sipush (v := (999 : Int32)) dX7_readRange_27 (by decide) ?_
  obtain ⟨c15, hw⟩ := wp_ck hw
  refine G_callV (As := [.int r3, .int (999 : Int32)]) (s_X5_expectNumber hs a12 r3 (999 : Int32) h9 _ (wp_cl hw)) ca_X5_expectNumber w_744 w_745 (ci := 5) rfl (by decide) w_743 c15 (Nat.le_of_ble_eq_true rfl) (Nat.le_of_ble_eq_true rfl) rfl (Nat.le_of_ble_eq_true rfl) (Nat.le_of_ble_eq_true rfl) (Nat.le_of_ble_eq_true rfl) dX7_readRange_30 rfl (fun v h14 hq => ?_)
  obtain ⟨r13, rfl, hw⟩ := hq
  refine G.cse (cs' := (0, 0)) rfl ?_
  show GZ _ _ _ _ _ _ _ 33 _ (.int r13 :: []) _ _
  refine G_istore (lv' := [some (.ref l0), some (.int l1), some (.int l2), some (.int r3), some (.int r13)]) dX7_readRange_33 (Nat.le_of_ble_eq_true rfl) rfl ?_
  refine G_aload_n dX7_readRange_35 rfl ?_
  obtain ⟨c16, hw⟩ := wp_ck hw
  refine G_getR fl_X7_tape w_561 dX7_readRange_36 c16 ?_
  obtain ⟨a17, ea17, hw⟩ := wp_rq hw
  refine G.sure ea17 ?_
  obtain ⟨c20, hw⟩ := wp_ck hw
  refine G_callV (As := []) (s_X5_isSound hs a17 h14 _ (wp_cl hw)) ca_X5_isSound w_764 w_765 (ci := 5) rfl (by decide) w_763 c20 (Nat.le_of_ble_eq_true rfl) (Nat.le_of_ble_eq_true rfl) rfl (Nat.le_of_ble_eq_true rfl) (Nat.le_of_ble_eq_true rfl) (Nat.le_of_ble_eq_true rfl) dX7_readRange_39 rfl (fun v h19 hq => ?_)
  obtain ⟨r18, rfl, hw⟩ := hq
  refine G.cse (cs' := (0, 0)) rfl ?_
  show GZ _ _ _ _ _ _ _ 42 _ (.int r18 :: []) _ _
  have hw := wp_if hw
  refine G_if_eq (tgt := 86) dX7_readRange_42 rfl (fun c21 => ?_) (fun c21 => ?_)
  · have hw := hw.1 c21
    exact G_vreturn rfl dX7_readRange_86 ⟨rfl, wp_ret hw⟩
  · have hw := hw.2 c21
    refine G_iload_n dX7_readRange_45 rfl ?_
    refine G_bipush (v := (6 : Int32)) dX7_readRange_46 (by decide) ?_
    have hw := wp_if hw
    refine G_icmp_ge (tgt := 86) dX7_readRange_48 rfl (fun c22 => ?_) (fun c22 => ?_)
    · have hw := hw.1 c22
      exact G_vreturn rfl dX7_readRange_86 ⟨rfl, wp_ret hw⟩
    · have hw := hw.2 c22
      refine G_aload_n dX7_readRange_51 rfl ?_
      obtain ⟨c23, hw⟩ := wp_ck hw
      refine G_getR fl_X7_valley w_562 dX7_readRange_52 c23 ?_
      obtain ⟨a24, ea24, hw⟩ := wp_rq hw
      refine G.sure ea24 ?_
      obtain ⟨c25, hw⟩ := wp_ck hw
      refine G_getNR fl_X6_ranges w_452 dX7_readRange_55 c25 ?_
      obtain ⟨a26, ea26, hw⟩ := wp_rq hw
      refine G.sure ea26 ?_
      refine G_iload_n dX7_readRange_58 rfl ?_
      refine G_iconst (v := (4 : Int32)) dX7_readRange_59 (by decide) ?_
      refine G_imul dX7_readRange_60 ?_
      refine G_iload_n dX7_readRange_61 rfl ?_
      refine G_iconst (v := (2 : Int32)) dX7_readRange_62 (by decide) ?_
      refine G_imul dX7_readRange_63 ?_
      refine G_iadd dX7_readRange_64 ?_
      refine G_iload_n dX7_readRange_65 rfl ?_
      obtain ⟨c27, hw⟩ := wp_ck hw
      obtain ⟨c28, hw⟩ := wp_ck hw
      refine G_iastore dX7_readRange_66 c27 c28 ?_
      refine G.nmh fun h29 eh29 => ?_
      have hw := wp_bd hw h29 eh29
      refine G_aload_n dX7_readRange_67 rfl ?_
      obtain ⟨c30, hw⟩ := wp_ck hw
      refine G_getR fl_X7_valley w_562 dX7_readRange_68 c30 ?_
      obtain ⟨a31, ea31, hw⟩ := wp_rq hw
      refine G.sure ea31 ?_
      obtain ⟨c32, hw⟩ := wp_ck hw
      refine G_getNR fl_X6_ranges w_452 dX7_readRange_71 c32 ?_
      obtain ⟨a33, ea33, hw⟩ := wp_rq hw
      refine G.sure ea33 ?_
      refine G_iload_n dX7_readRange_74 rfl ?_
      refine G_iconst (v := (4 : Int32)) dX7_readRange_75 (by decide) ?_
      refine G_imul dX7_readRange_76 ?_
      refine G_iload_n dX7_readRange_77 rfl ?_
      refine G_iconst (v := (2 : Int32)) dX7_readRange_78 (by decide) ?_
      refine G_imul dX7_readRange_79 ?_
      refine G_iadd dX7_readRange_80 ?_
      refine G_iconst (v := (1 : Int32)) dX7_readRange_81 (by decide) ?_
      refine G_iadd dX7_readRange_82 ?_
      refine G_iload dX7_readRange_83 rfl ?_
      obtain ⟨c34, hw⟩ := wp_ck hw
      obtain ⟨c35, hw⟩ := wp_ck hw
      refine G_iastore dX7_readRange_85 c34 c35 ?_
      refine G.nmh fun h36 eh36 => ?_
      have hw := wp_bd hw h36 eh36
      exact G_vreturn rfl dX7_readRange_86 ⟨rfl, wp_ret hw⟩
set_option maxHeartbeats 4000000 in
set_option maxRecDepth 100000 in
theorem s_X7_readSign {Γ : GX} (hs : SF Γ) {N : Nat} (l0 : Nat) (h : PH) (Q : Unit → PH → Prop) (hw : wp (f_X7_readSign N l0 h) Q) : Spec Γ yX7_readSign cX7_readSign 4 none (8, 0, 0) [.ref l0] h (q_u Q) := by
  refine Spec.of (by decide) (Nat.le_of_ble_eq_true rfl) [some (.ref l0), none, none, none] rfl ?_
  unfold f_X7_readSign at hw
  refine G_aload_n dX7_readSign_0 rfl ?_
  refine G_iconst (v := (3 : Int32)) dX7_readSign_1 (by decide) ?_
  refine G_bipush (v := (6 : Int32)) dX7_readSign_2 (by decide) ?_
  obtain ⟨c3, hw⟩ := wp_ck hw
  refine G_callV (As := [.int (3 : Int32), .int (6 : Int32)]) (s_X7_oneMore hs l0 (3 : Int32) (6 : Int32) h _ (wp_cl hw)) ca_X7_oneMore w_712 w_3 (ci := 7) rfl (by decide) w_710 c3 (Nat.le_of_ble_eq_true rfl) (Nat.le_of_ble_eq_true rfl) rfl (Nat.le_of_ble_eq_true rfl) (Nat.le_of_ble_eq_true rfl) (Nat.le_of_ble_eq_true rfl) dX7_readSign_4 rfl (fun v h2 hq => ?_)
  obtain ⟨r1, rfl, hw⟩ := hq
  refine G.cse (cs' := (0, 0)) rfl ?_
  show GZ _ _ _ _ _ _ _ 7 _ (.int r1 :: []) _ _
  refine G_istore_n (lv' := [some (.ref l0), some (.int r1), none, none]) dX7_readSign_7 (Nat.le_of_ble_eq_true rfl) rfl ?_
  refine G_aload_n dX7_readSign_8 rfl ?_
  obtain ⟨c6, hw⟩ := wp_ck hw
  refine G_callV (As := []) (s_X7_newName hs l0 h2 _ (wp_cl hw)) ca_X7_newName w_721 w_4 (ci := 7) rfl (by decide) w_719 c6 (Nat.le_of_ble_eq_true rfl) (Nat.le_of_ble_eq_true rfl) rfl (Nat.le_of_ble_eq_true rfl) (Nat.le_of_ble_eq_true rfl) (Nat.le_of_ble_eq_true rfl) dX7_readSign_9 rfl (fun v h5 hq => ?_)
  obtain ⟨r4, rfl, hw⟩ := hq
  refine G.cse (cs' := (0, 0)) rfl ?_
  show GZ _ _ _ _ _ _ _ 12 _ (.long r4 :: []) _ _
  refine G_lstore_n (lv' := [some (.ref l0), some (.int r1), some (.long r4), none]) dX7_readSign_12 (Nat.le_of_ble_eq_true rfl) rfl ?_
  refine G_aload_n dX7_readSign_13 rfl ?_
  obtain ⟨c7, hw⟩ := wp_ck hw
  refine G_getR fl_X7_tape w_561 dX7_readSign_14 c7 ?_
  obtain ⟨a8, ea8, hw⟩ := wp_rq hw
  refine G.sure ea8 ?_
  refine G_getsW hs 1 rfl (by decide) w_735 dX7_readSign_17 ?_
  obtain ⟨c11, hw⟩ := wp_ck hw
  refine G_callV (As := [.ref (hW h5 1)]) (s_X5_expect hs a8 (hW h5 1) h5 _ (wp_cl hw)) ca_X5_expect w_738 w_739 (ci := 5) rfl (by decide) w_737 c11 (Nat.le_of_ble_eq_true rfl) (Nat.le_of_ble_eq_true rfl) rfl (Nat.le_of_ble_eq_true rfl) (Nat.le_of_ble_eq_true rfl) (Nat.le_of_ble_eq_true rfl) dX7_readSign_20 rfl (fun v h10 hq => ?_)
  obtain ⟨rfl, hw⟩ := hq
  refine G.cse (cs' := (0, 0)) rfl ?_
  show GZ _ _ _ _ _ _ _ 23 _ [] _ _
  refine G_aload_n dX7_readSign_23 rfl ?_
  refine G_iload_n dX7_readSign_24 rfl ?_
  refine G_iconst (v := (0 : Int32)) dX7_readSign_25 (by decide) ?_
  obtain ⟨c14, hw⟩ := wp_ck hw
  refine G_callV (As := [.int r1, .int (0 : Int32)]) (s_X7_readRange hs l0 r1 (0 : Int32) h10 _ (wp_cl hw)) ca_X7_readRange w_805 w_9 (ci := 7) rfl (by decide) w_803 c14 (Nat.le_of_ble_eq_true rfl) (Nat.le_of_ble_eq_true rfl) rfl (Nat.le_of_ble_eq_true rfl) (Nat.le_of_ble_eq_true rfl) (Nat.le_of_ble_eq_true rfl) dX7_readSign_26 rfl (fun v h13 hq => ?_)
  obtain ⟨rfl, hw⟩ := hq
  refine G.cse (cs' := (0, 0)) rfl ?_
  show GZ _ _ _ _ _ _ _ 29 _ [] _ _
  refine G_aload_n dX7_readSign_29 rfl ?_
  obtain ⟨c15, hw⟩ := wp_ck hw
  refine G_getR fl_X7_tape w_561 dX7_readSign_30 c15 ?_
  obtain ⟨a16, ea16, hw⟩ := wp_rq hw
  refine G.sure ea16 ?_
  refine G_getsW hs 2 rfl (by decide) w_751 dX7_readSign_33 ?_
  obtain ⟨c19, hw⟩ := wp_ck hw
  refine G_callV (As := [.ref (hW h13 2)]) (s_X5_expect hs a16 (hW h13 2) h13 _ (wp_cl hw)) ca_X5_expect w_738 w_739 (ci := 5) rfl (by decide) w_737 c19 (Nat.le_of_ble_eq_true rfl) (Nat.le_of_ble_eq_true rfl) rfl (Nat.le_of_ble_eq_true rfl) (Nat.le_of_ble_eq_true rfl) (Nat.le_of_ble_eq_true rfl) dX7_readSign_36 rfl (fun v h18 hq => ?_)
  obtain ⟨rfl, hw⟩ := hq
  refine G.cse (cs' := (0, 0)) rfl ?_
  show GZ _ _ _ _ _ _ _ 39 _ [] _ _
  refine G_aload_n dX7_readSign_39 rfl ?_
  refine G_iload_n dX7_readSign_40 rfl ?_
  refine G_iconst (v := (1 : Int32)) dX7_readSign_41 (by decide) ?_
  obtain ⟨c22, hw⟩ := wp_ck hw
  refine G_callV (As := [.int r1, .int (1 : Int32)]) (s_X7_readRange hs l0 r1 (1 : Int32) h18 _ (wp_cl hw)) ca_X7_readRange w_805 w_9 (ci := 7) rfl (by decide) w_803 c22 (Nat.le_of_ble_eq_true rfl) (Nat.le_of_ble_eq_true rfl) rfl (Nat.le_of_ble_eq_true rfl) (Nat.le_of_ble_eq_true rfl) (Nat.le_of_ble_eq_true rfl) dX7_readSign_42 rfl (fun v h21 hq => ?_)
  obtain ⟨rfl, hw⟩ := hq
  refine G.cse (cs' := (0, 0)) rfl ?_
  show GZ _ _ _ _ _ _ _ 45 _ [] _ _
  refine G_aload_n dX7_readSign_45 rfl ?_
  obtain ⟨c23, hw⟩ := wp_ck hw
  refine G_getR fl_X7_tape w_561 dX7_readSign_46 c23 ?_
  obtain ⟨a24, ea24, hw⟩ := wp_rq hw
  refine G.sure ea24 ?_
  refine G_bipush (v := (59 : Int32)) dX7_readSign_49 (by decide) ?_
  obtain ⟨c27, hw⟩ := wp_ck hw
  refine G_callV (As := [.int (59 : Int32)]) (s_X5_expectSign hs a24 (59 : Int32) h21 _ (wp_cl hw)) ca_X5_expectSign w_756 w_757 (ci := 5) rfl (by decide) w_755 c27 (Nat.le_of_ble_eq_true rfl) (Nat.le_of_ble_eq_true rfl) rfl (Nat.le_of_ble_eq_true rfl) (Nat.le_of_ble_eq_true rfl) (Nat.le_of_ble_eq_true rfl) dX7_readSign_51 rfl (fun v h26 hq => ?_)
  obtain ⟨rfl, hw⟩ := hq
  refine G.cse (cs' := (0, 0)) rfl ?_
  show GZ _ _ _ _ _ _ _ 54 _ [] _ _
  refine G_aload_n dX7_readSign_54 rfl ?_
  obtain ⟨c28, hw⟩ := wp_ck hw
  refine G_getR fl_X7_tape w_561 dX7_readSign_55 c28 ?_
  obtain ⟨a29, ea29, hw⟩ := wp_rq hw
  refine G.sure ea29 ?_
  obtain ⟨c32, hw⟩ := wp_ck hw
  refine G_callV (As := []) (s_X5_isSound hs a29 h26 _ (wp_cl hw)) ca_X5_isSound w_764 w_765 (ci := 5) rfl (by decide) w_763 c32 (Nat.le_of_ble_eq_true rfl) (Nat.le_of_ble_eq_true rfl) rfl (Nat.le_of_ble_eq_true rfl) (Nat.le_of_ble_eq_true rfl) (Nat.le_of_ble_eq_true rfl) dX7_readSign_58 rfl (fun v h31 hq => ?_)
  obtain ⟨r30, rfl, hw⟩ := hq
  refine G.cse (cs' := (0, 0)) rfl ?_
  show GZ _ _ _ _ _ _ _ 61 _ (.int r30 :: []) _ _
  have hw := wp_if hw
  refine G_if_eq (tgt := 73) dX7_readSign_61 rfl (fun c33 => ?_) (fun c33 => ?_)
  · have hw := hw.1 c33
    exact G_vreturn rfl dX7_readSign_73 ⟨rfl, wp_ret hw⟩
  · have hw := hw.2 c33
    refine G_aload_n dX7_readSign_64 rfl ?_
    obtain ⟨c34, hw⟩ := wp_ck hw
    refine G_getR fl_X7_valley w_562 dX7_readSign_65 c34 ?_
    obtain ⟨a35, ea35, hw⟩ := wp_rq hw
    refine G.sure ea35 ?_
    refine G_iconst (v := (3 : Int32)) dX7_readSign_68 (by decide) ?_
    refine G_lload_n dX7_readSign_69 rfl ?_
    obtain ⟨c38, hw⟩ := wp_ck hw
    refine G_callV (As := [.int (3 : Int32), .long r4]) (s_X6_enter hs a35 (3 : Int32) r4 h31 _ (wp_cl hw)) ca_X6_enter w_768 w_769 (ci := 6) rfl (by decide) w_767 c38 (Nat.le_of_ble_eq_true rfl) (Nat.le_of_ble_eq_true rfl) rfl (Nat.le_of_ble_eq_true rfl) (Nat.le_of_ble_eq_true rfl) (Nat.le_of_ble_eq_true rfl) dX7_readSign_70 rfl (fun v h37 hq => ?_)
    obtain ⟨rfl, hw⟩ := hq
    refine G.cse (cs' := (0, 0)) rfl ?_
    show GZ _ _ _ _ _ _ _ 73 _ [] _ _
    exact G_vreturn rfl dX7_readSign_73 ⟨rfl, wp_ret hw⟩
set_option maxHeartbeats 4000000 in
set_option maxRecDepth 100000 in
theorem f_X7_readWatcher_84_ok {Γ : GX} (hs : SF Γ) {N : Nat} (l0 : Nat) (l1 : Int32) (l2 : Int64) (l4 : Int32) (h : PH) (Q : Unit → PH → Prop) (hw : wp (f_X7_readWatcher_84 N l0 l1 l2 l4 h) Q) : G Γ yX7_readWatcher cX7_readWatcher 5 none (7, 0, 0) 84 [some (.ref l0), some (.int l1), some (.long l2), none, some (.int l4)] [] h (0, 0) (q_u Q) := by
  unfold f_X7_readWatcher_84 at hw
  refine G_aload_n dX7_readWatcher_84 rfl ?_
  obtain ⟨c1, hw⟩ := wp_ck hw
  refine G_getR fl_X7_tape w_561 dX7_readWatcher_85 c1 ?_
  obtain ⟨a2, ea2, hw⟩ := wp_rq hw
  refine G.sure ea2 ?_
  obtain ⟨c5, hw⟩ := wp_ck hw
  refine G_callV (As := []) (s_X5_step hs a2 h _ (wp_cl hw)) ca_X5_step w_586 w_587 (ci := 5) rfl (by decide) w_718 c5 (Nat.le_of_ble_eq_true rfl) (Nat.le_of_ble_eq_true rfl) rfl (Nat.le_of_ble_eq_true rfl) (Nat.le_of_ble_eq_true rfl) (Nat.le_of_ble_eq_true rfl) dX7_readWatcher_88 rfl (fun v h4 hq => ?_)
  obtain ⟨rfl, hw⟩ := hq
  refine G.cse (cs' := (0, 0)) rfl ?_
  show GZ _ _ _ _ _ _ _ 91 _ [] _ _
  refine G_aload_n dX7_readWatcher_91 rfl ?_
  obtain ⟨c6, hw⟩ := wp_ck hw
  refine G_getR fl_X7_tape w_561 dX7_readWatcher_92 c6 ?_
  obtain ⟨a7, ea7, hw⟩ := wp_rq hw
  refine G.sure ea7 ?_
  refine G_bipush (v := (59 : Int32)) dX7_readWatcher_95 (by decide) ?_
  obtain ⟨c10, hw⟩ := wp_ck hw
  refine G_callV (As := [.int (59 : Int32)]) (s_X5_expectSign hs a7 (59 : Int32) h4 _ (wp_cl hw)) ca_X5_expectSign w_756 w_757 (ci := 5) rfl (by decide) w_755 c10 (Nat.le_of_ble_eq_true rfl) (Nat.le_of_ble_eq_true rfl) rfl (Nat.le_of_ble_eq_true rfl) (Nat.le_of_ble_eq_true rfl) (Nat.le_of_ble_eq_true rfl) dX7_readWatcher_97 rfl (fun v h9 hq => ?_)
  obtain ⟨rfl, hw⟩ := hq
  refine G.cse (cs' := (0, 0)) rfl ?_
  show GZ _ _ _ _ _ _ _ 100 _ [] _ _
  refine G_aload_n dX7_readWatcher_100 rfl ?_
  obtain ⟨c11, hw⟩ := wp_ck hw
  refine G_getR fl_X7_tape w_561 dX7_readWatcher_101 c11 ?_
  obtain ⟨a12, ea12, hw⟩ := wp_rq hw
  refine G.sure ea12 ?_
  obtain ⟨c15, hw⟩ := wp_ck hw
  refine G_callV (As := []) (s_X5_isSound hs a12 h9 _ (wp_cl hw)) ca_X5_isSound w_764 w_765 (ci := 5) rfl (by decide) w_763 c15 (Nat.le_of_ble_eq_true rfl) (Nat.le_of_ble_eq_true rfl) rfl (Nat.le_of_ble_eq_true rfl) (Nat.le_of_ble_eq_true rfl) (Nat.le_of_ble_eq_true rfl) dX7_readWatcher_104 rfl (fun v h14 hq => ?_)
  obtain ⟨r13, rfl, hw⟩ := hq
  refine G.cse (cs' := (0, 0)) rfl ?_
  show GZ _ _ _ _ _ _ _ 107 _ (.int r13 :: []) _ _
  have hw := wp_if hw
  refine G_if_eq (tgt := 135) dX7_readWatcher_107 rfl (fun c16 => ?_) (fun c16 => ?_)
  · have hw := hw.1 c16
    exact G_vreturn rfl dX7_readWatcher_135 ⟨rfl, wp_ret hw⟩
  · have hw := hw.2 c16
    refine G_iload_n dX7_readWatcher_110 rfl ?_
    refine G_iconst (v := (4 : Int32)) dX7_readWatcher_111 (by decide) ?_
    have hw := wp_if hw
    refine G_icmp_ge (tgt := 135) dX7_readWatcher_112 rfl (fun c17 => ?_) (fun c17 => ?_)
    · have hw := hw.1 c17
      exact G_vreturn rfl dX7_readWatcher_135 ⟨rfl, wp_ret hw⟩
    · have hw := hw.2 c17
      refine G_aload_n dX7_readWatcher_115 rfl ?_
      obtain ⟨c18, hw⟩ := wp_ck hw
      refine G_getR fl_X7_valley w_562 dX7_readWatcher_116 c18 ?_
      obtain ⟨a19, ea19, hw⟩ := wp_rq hw
      refine G.sure ea19 ?_
      obtain ⟨c20, hw⟩ := wp_ck hw
      refine G_getNR fl_X6_sights w_455 dX7_readWatcher_119 c20 ?_
      obtain ⟨a21, ea21, hw⟩ := wp_rq hw
      refine G.sure ea21 ?_
      refine G_iload_n dX7_readWatcher_122 rfl ?_
      refine G_iload dX7_readWatcher_123 rfl ?_
      obtain ⟨c22, hw⟩ := wp_ck hw
      obtain ⟨c23, hw⟩ := wp_ck hw
      refine G_iastore dX7_readWatcher_125 c22 c23 ?_
      refine G.nmh fun h24 eh24 => ?_
      have hw := wp_bd hw h24 eh24
      refine G_aload_n dX7_readWatcher_126 rfl ?_
      obtain ⟨c25, hw⟩ := wp_ck hw
      refine G_getR fl_X7_valley w_562 dX7_readWatcher_127 c25 ?_
      obtain ⟨a26, ea26, hw⟩ := wp_rq hw
      refine G.sure ea26 ?_
      refine G_iconst (v := (4 : Int32)) dX7_readWatcher_130 (by decide) ?_
      refine G_lload_n dX7_readWatcher_131 rfl ?_
      obtain ⟨c29, hw⟩ := wp_ck hw
      refine G_callV (As := [.int (4 : Int32), .long l2]) (s_X6_enter hs a26 (4 : Int32) l2 h24 _ (wp_cl hw)) ca_X6_enter w_768 w_769 (ci := 6) rfl (by decide) w_767 c29 (Nat.le_of_ble_eq_true rfl) (Nat.le_of_ble_eq_true rfl) rfl (Nat.le_of_ble_eq_true rfl) (Nat.le_of_ble_eq_true rfl) (Nat.le_of_ble_eq_true rfl) dX7_readWatcher_132 rfl (fun v h28 hq => ?_)
      obtain ⟨rfl, hw⟩ := hq
      refine G.cse (cs' := (0, 0)) rfl ?_
      show GZ _ _ _ _ _ _ _ 135 _ [] _ _
      exact G_vreturn rfl dX7_readWatcher_135 ⟨rfl, wp_ret hw⟩
set_option maxHeartbeats 4000000 in
set_option maxRecDepth 100000 in
theorem s_X7_readWatcher {Γ : GX} (hs : SF Γ) {N : Nat} (l0 : Nat) (h : PH) (Q : Unit → PH → Prop) (hw : wp (f_X7_readWatcher N l0 h) Q) : Spec Γ yX7_readWatcher cX7_readWatcher 5 none (7, 0, 0) [.ref l0] h (q_u Q) := by
  refine Spec.of (by decide) (Nat.le_of_ble_eq_true rfl) [some (.ref l0), none, none, none, none] rfl ?_
  unfold f_X7_readWatcher at hw
  refine G_aload_n dX7_readWatcher_0 rfl ?_
  refine G_iconst (v := (4 : Int32)) dX7_readWatcher_1 (by decide) ?_
  refine G_iconst (v := (4 : Int32)) dX7_readWatcher_2 (by decide) ?_
  obtain ⟨c3, hw⟩ := wp_ck hw
  refine G_callV (As := [.int (4 : Int32), .int (4 : Int32)]) (s_X7_oneMore hs l0 (4 : Int32) (4 : Int32) h _ (wp_cl hw)) ca_X7_oneMore w_712 w_3 (ci := 7) rfl (by decide) w_710 c3 (Nat.le_of_ble_eq_true rfl) (Nat.le_of_ble_eq_true rfl) rfl (Nat.le_of_ble_eq_true rfl) (Nat.le_of_ble_eq_true rfl) (Nat.le_of_ble_eq_true rfl) dX7_readWatcher_3 rfl (fun v h2 hq => ?_)
  obtain ⟨r1, rfl, hw⟩ := hq
  refine G.cse (cs' := (0, 0)) rfl ?_
  show GZ _ _ _ _ _ _ _ 6 _ (.int r1 :: []) _ _
  refine G_istore_n (lv' := [some (.ref l0), some (.int r1), none, none, none]) dX7_readWatcher_6 (Nat.le_of_ble_eq_true rfl) rfl ?_
  refine G_aload_n dX7_readWatcher_7 rfl ?_
  obtain ⟨c6, hw⟩ := wp_ck hw
  refine G_callV (As := []) (s_X7_newName hs l0 h2 _ (wp_cl hw)) ca_X7_newName w_721 w_4 (ci := 7) rfl (by decide) w_719 c6 (Nat.le_of_ble_eq_true rfl) (Nat.le_of_ble_eq_true rfl) rfl (Nat.le_of_ble_eq_true rfl) (Nat.le_of_ble_eq_true rfl) (Nat.le_of_ble_eq_true rfl) dX7_readWatcher_8 rfl (fun v h5 hq => ?_)
  obtain ⟨r4, rfl, hw⟩ := hq
  refine G.cse (cs' := (0, 0)) rfl ?_
  show GZ _ _ _ _ _ _ _ 11 _ (.long r4 :: []) _ _
  refine G_lstore_n (lv' := [some (.ref l0), some (.int r1), some (.long r4), none, none]) dX7_readWatcher_11 (Nat.le_of_ble_eq_true rfl) rfl ?_
  refine G_aload_n dX7_readWatcher_12 rfl ?_
  obtain ⟨c7, hw⟩ := wp_ck hw
  refine G_getR fl_X7_tape w_561 dX7_readWatcher_13 c7 ?_
  obtain ⟨a8, ea8, hw⟩ := wp_rq hw
  refine G.sure ea8 ?_
  refine G_getsW hs 11 rfl (by decide) w_815 dX7_readWatcher_16 ?_
  obtain ⟨c11, hw⟩ := wp_ck hw
  refine G_callV (As := [.ref (hW h5 11)]) (s_X5_expect hs a8 (hW h5 11) h5 _ (wp_cl hw)) ca_X5_expect w_738 w_739 (ci := 5) rfl (by decide) w_737 c11 (Nat.le_of_ble_eq_true rfl) (Nat.le_of_ble_eq_true rfl) rfl (Nat.le_of_ble_eq_true rfl) (Nat.le_of_ble_eq_true rfl) (Nat.le_of_ble_eq_true rfl) dX7_readWatcher_19 rfl (fun v h10 hq => ?_)
  obtain ⟨rfl, hw⟩ := hq
  refine G.cse (cs' := (0, 0)) rfl ?_
  show GZ _ _ _ _ _ _ _ 22 _ [] _ _
  refine G_iconst (v := (2 : Int32)) dX7_readWatcher_22 (by decide) ?_
  refine G_istore (lv' := [some (.ref l0), some (.int r1), some (.long r4), none, some (.int (2 : Int32))]) dX7_readWatcher_23 (Nat.le_of_ble_eq_true rfl) rfl ?_
  refine G_aload_n dX7_readWatcher_25 rfl ?_
  obtain ⟨c12, hw⟩ := wp_ck hw
  refine G_getR fl_X7_tape w_561 dX7_readWatcher_26 c12 ?_
  obtain ⟨a13, ea13, hw⟩ := wp_rq hw
  refine G.sure ea13 ?_
  refine G_getsW hs 1 rfl (by decide) w_735 dX7_readWatcher_29 ?_
  obtain ⟨c16, hw⟩ := wp_ck hw
  refine G_callV (As := [.ref (hW h10 1)]) (s_X5_isAt hs a13 (hW h10 1) h10 _ (wp_cl hw)) ca_X5_isAt w_703 w_704 (ci := 5) rfl (by decide) w_702 c16 (Nat.le_of_ble_eq_true rfl) (Nat.le_of_ble_eq_true rfl) rfl (Nat.le_of_ble_eq_true rfl) (Nat.le_of_ble_eq_true rfl) (Nat.le_of_ble_eq_true rfl) dX7_readWatcher_32 rfl (fun v h15 hq => ?_)
  obtain ⟨r14, rfl, hw⟩ := hq
  refine G.cse (cs' := (0, 0)) rfl ?_
  show GZ _ _ _ _ _ _ _ 35 _ (.int r14 :: []) _ _
  have hw := wp_if hw
  refine G_if_eq (tgt := 44) dX7_readWatcher_35 rfl (fun c17 => ?_) (fun c17 => ?_)
  · have hw := hw.1 c17
    refine G_aload_n dX7_readWatcher_44 rfl ?_
    obtain ⟨c18, hw⟩ := wp_ck hw
    refine G_getR fl_X7_tape w_561 dX7_readWatcher_45 c18 ?_
    obtain ⟨a19, ea19, hw⟩ := wp_rq hw
    refine G.sure ea19 ?_
    refine G_getsW hs 2 rfl (by decide) w_751 dX7_readWatcher_48 ?_
    obtain ⟨c22, hw⟩ := wp_ck hw
    refine G_callV (As := [.ref (hW h15 2)]) (s_X5_isAt hs a19 (hW h15 2) h15 _ (wp_cl hw)) ca_X5_isAt w_703 w_704 (ci := 5) rfl (by decide) w_702 c22 (Nat.le_of_ble_eq_true rfl) (Nat.le_of_ble_eq_true rfl) rfl (Nat.le_of_ble_eq_true rfl) (Nat.le_of_ble_eq_true rfl) (Nat.le_of_ble_eq_true rfl) dX7_readWatcher_51 rfl (fun v h21 hq => ?_)
    obtain ⟨r20, rfl, hw⟩ := hq
    refine G.cse (cs' := (0, 0)) rfl ?_
    show GZ _ _ _ _ _ _ _ 54 _ (.int r20 :: []) _ _
    have hw := wp_if hw
    refine G_if_eq (tgt := 63) dX7_readWatcher_54 rfl (fun c23 => ?_) (fun c23 => ?_)
    · have hw := hw.1 c23
      refine G_aload_n dX7_readWatcher_63 rfl ?_
      obtain ⟨c24, hw⟩ := wp_ck hw
      refine G_getR fl_X7_tape w_561 dX7_readWatcher_64 c24 ?_
      obtain ⟨a25, ea25, hw⟩ := wp_rq hw
      refine G.sure ea25 ?_
      refine G_getsW hs 12 rfl (by decide) w_817 dX7_readWatcher_67 ?_
      obtain ⟨c28, hw⟩ := wp_ck hw
      refine G_callV (As := [.ref (hW h21 12)]) (s_X5_isAt hs a25 (hW h21 12) h21 _ (wp_cl hw)) ca_X5_isAt w_703 w_704 (ci := 5) rfl (by decide) w_702 c28 (Nat.le_of_ble_eq_true rfl) (Nat.le_of_ble_eq_true rfl) rfl (Nat.le_of_ble_eq_true rfl) (Nat.le_of_ble_eq_true rfl) (Nat.le_of_ble_eq_true rfl) dX7_readWatcher_70 rfl (fun v h27 hq => ?_)
      obtain ⟨r26, rfl, hw⟩ := hq
      refine G.cse (cs' := (0, 0)) rfl ?_
      show GZ _ _ _ _ _ _ _ 73 _ (.int r26 :: []) _ _
      have hw := wp_if hw
      refine G_if_ne (tgt := 84) dX7_readWatcher_73 rfl (fun c29 => ?_) (fun c29 => ?_)
      · have hw := hw.2 c29
        refine G.less [some (.ref l0), some (.int r1), some (.long r4), none, some (.int (2 : Int32))] ⟨rfl, ⟨rfl, ⟨rfl, ⟨rfl, trivial⟩⟩⟩⟩ ?_
        exact f_X7_readWatcher_84_ok hs _ _ _ _ h27 Q hw
      · have hw := hw.1 c29
        refine G_aload_n dX7_readWatcher_76 rfl ?_
        obtain ⟨c30, hw⟩ := wp_ck hw
        refine G_getR fl_X7_tape w_561 dX7_readWatcher_77 c30 ?_
        obtain ⟨a31, ea31, hw⟩ := wp_rq hw
        refine G.sure ea31 ?_
        refine G_iconst (v := (1 : Int32)) dX7_readWatcher_80 (by decide) ?_
        obtain ⟨c34, hw⟩ := wp_ck hw
        refine G_callV (As := [.int (1 : Int32)]) (s_X5_fail hs a31 (1 : Int32) h27 _ (wp_cl hw)) ca_X5_fail w_715 w_716 (ci := 5) rfl (by decide) w_714 c34 (Nat.le_of_ble_eq_true rfl) (Nat.le_of_ble_eq_true rfl) rfl (Nat.le_of_ble_eq_true rfl) (Nat.le_of_ble_eq_true rfl) (Nat.le_of_ble_eq_true rfl) dX7_readWatcher_81 rfl (fun v h33 hq => ?_)
        obtain ⟨rfl, hw⟩ := hq
        refine G.cse (cs' := (0, 0)) rfl ?_
        show GZ _ _ _ _ _ _ _ 84 _ [] _ _
        refine G.less [some (.ref l0), some (.int r1), some (.long r4), none, some (.int (2 : Int32))] ⟨rfl, ⟨rfl, ⟨rfl, ⟨rfl, trivial⟩⟩⟩⟩ ?_
        exact f_X7_readWatcher_84_ok hs _ _ _ _ h33 Q hw
    · have hw := hw.2 c23
      refine G_iconst (v := (1 : Int32)) dX7_readWatcher_57 (by decide) ?_
      refine G_istore (lv' := [some (.ref l0), some (.int r1), some (.long r4), none, some (.int (1 : Int32))]) dX7_readWatcher_58 (Nat.le_of_ble_eq_true rfl) rfl ?_
      refine G_goto (tgt := 84) dX7_readWatcher_60 rfl ?_
      refine G.less [some (.ref l0), some (.int r1), some (.long r4), none, some (.int (1 : Int32))] ⟨rfl, ⟨rfl, ⟨rfl, ⟨rfl, trivial⟩⟩⟩⟩ ?_
      exact f_X7_readWatcher_84_ok hs _ _ _ _ h21 Q hw
  · have hw := hw.2 c17
    refine G_iconst (v := (0 : Int32)) dX7_readWatcher_38 (by decide) ?_
    refine G_istore (lv' := [some (.ref l0), some (.int r1), some (.long r4), none, some (.int (0 : Int32))]) dX7_readWatcher_39 (Nat.le_of_ble_eq_true rfl) rfl ?_
    refine G_goto (tgt := 84) dX7_readWatcher_41 rfl ?_
    refine G.less [some (.ref l0), some (.int r1), some (.long r4), none, some (.int (0 : Int32))] ⟨rfl, ⟨rfl, ⟨rfl, ⟨rfl, trivial⟩⟩⟩⟩ ?_
    exact f_X7_readWatcher_84_ok hs _ _ _ _ h15 Q hw
set_option maxHeartbeats 4000000 in
set_option maxRecDepth 100000 in
theorem f_X7_readWind_52_ok {Γ : GX} (hs : SF Γ) {N : Nat} (l0 : Nat) (l1 : Int32) (h : PH) (Q : Unit → PH → Prop) (hw : wp (f_X7_readWind_52 N l0 l1 h) Q) : G Γ yX7_readWind cX7_readWind 3 none (7, 0, 0) 52 [some (.ref l0), some (.int l1), none] [] h (0, 0) (q_u Q) := by
  unfold f_X7_readWind_52 at hw
  refine G_aload_n dX7_readWind_52 rfl ?_
  obtain ⟨c1, hw⟩ := wp_ck hw
  refine G_getR fl_X7_tape w_561 dX7_readWind_53 c1 ?_
  obtain ⟨a2, ea2, hw⟩ := wp_rq hw
  refine G.sure ea2 ?_
  refine G_iconst (v := (0 : Int32)) dX7_readWind_56 (by decide) ?_
  refine G_bipush (v := (9 : Int32)) dX7_readWind_57 (by decide) ?_
  obtain ⟨c5, hw⟩ := wp_ck hw
  refine G_callV (As := [.int (0 : Int32), .int (9 : Int32)]) (s_X5_expectNumber hs a2 (0 : Int32) (9 : Int32) h _ (wp_cl hw)) ca_X5_expectNumber w_744 w_745 (ci := 5) rfl (by decide) w_743 c5 (Nat.le_of_ble_eq_true rfl) (Nat.le_of_ble_eq_true rfl) rfl (Nat.le_of_ble_eq_true rfl) (Nat.le_of_ble_eq_true rfl) (Nat.le_of_ble_eq_true rfl) dX7_readWind_59 rfl (fun v h4 hq => ?_)
  obtain ⟨r3, rfl, hw⟩ := hq
  refine G.cse (cs' := (0, 0)) rfl ?_
  show GZ _ _ _ _ _ _ _ 62 _ (.int r3 :: []) _ _
  refine G_istore_n (lv' := [some (.ref l0), some (.int l1), some (.int r3)]) dX7_readWind_62 (Nat.le_of_ble_eq_true rfl) rfl ?_
  refine G_aload_n dX7_readWind_63 rfl ?_
  obtain ⟨c6, hw⟩ := wp_ck hw
  refine G_getR fl_X7_tape w_561 dX7_readWind_64 c6 ?_
  obtain ⟨a7, ea7, hw⟩ := wp_rq hw
  refine G.sure ea7 ?_
  obtain ⟨c10, hw⟩ := wp_ck hw
  refine G_callV (As := []) (s_X5_isSound hs a7 h4 _ (wp_cl hw)) ca_X5_isSound w_764 w_765 (ci := 5) rfl (by decide) w_763 c10 (Nat.le_of_ble_eq_true rfl) (Nat.le_of_ble_eq_true rfl) rfl (Nat.le_of_ble_eq_true rfl) (Nat.le_of_ble_eq_true rfl) (Nat.le_of_ble_eq_true rfl) dX7_readWind_67 rfl (fun v h9 hq => ?_)
  obtain ⟨r8, rfl, hw⟩ := hq
  refine G.cse (cs' := (0, 0)) rfl ?_
  show GZ _ _ _ _ _ _ _ 70 _ (.int r8 :: []) _ _
  have hw := wp_if hw
  refine G_if_eq (tgt := 106) dX7_readWind_70 rfl (fun c11 => ?_) (fun c11 => ?_)
  · have hw := hw.1 c11
    exact G_vreturn rfl dX7_readWind_106 ⟨rfl, wp_ret hw⟩
  · have hw := hw.2 c11
    refine G_iload_n dX7_readWind_73 rfl ?_
    have hw := wp_if hw
    refine G_if_ne (tgt := 106) dX7_readWind_74 rfl (fun c12 => ?_) (fun c12 => ?_)
    · have hw := hw.2 c12
      exact G_vreturn rfl dX7_readWind_106 ⟨rfl, wp_ret hw⟩
    · have hw := hw.1 c12
      refine G_aload_n dX7_readWind_77 rfl ?_
      obtain ⟨c13, hw⟩ := wp_ck hw
      refine G_getR fl_X7_valley w_562 dX7_readWind_78 c13 ?_
      obtain ⟨a14, ea14, hw⟩ := wp_rq hw
      refine G.sure ea14 ?_
      obtain ⟨c15, hw⟩ := wp_ck hw
      refine G_getNR fl_X6_winds w_458 dX7_readWind_81 c15 ?_
      obtain ⟨a16, ea16, hw⟩ := wp_rq hw
      refine G.sure ea16 ?_
      refine G_aload_n dX7_readWind_84 rfl ?_
      refine G_getR fl_X7_valley w_562 dX7_readWind_85 c13 ?_
      obtain ⟨a17, ea17, hw⟩ := wp_rq hw
      refine G.sure ea17 ?_
      obtain ⟨c18, hw⟩ := wp_ck hw
      refine G_getNI fl_X6_windCount w_460 dX7_readWind_88 c18 ?_
      refine G_iload_n dX7_readWind_91 rfl ?_
      obtain ⟨c19, hw⟩ := wp_ck hw
      obtain ⟨c20, hw⟩ := wp_ck hw
      refine G_iastore dX7_readWind_92 c19 c20 ?_
      refine G.nmh fun h21 eh21 => ?_
      have hw := wp_bd hw h21 eh21
      refine G_aload_n dX7_readWind_93 rfl ?_
      obtain ⟨c22, hw⟩ := wp_ck hw
      refine G_getR fl_X7_valley w_562 dX7_readWind_94 c22 ?_
      obtain ⟨a23, ea23, hw⟩ := wp_rq hw
      refine G.sure ea23 ?_
      refine G_dup dX7_readWind_97 rfl ?_
      obtain ⟨c24, hw⟩ := wp_ck hw
      refine G_getNI fl_X6_windCount w_460 dX7_readWind_98 c24 ?_
      refine G_iconst (v := (1 : Int32)) dX7_readWind_101 (by decide) ?_
      refine G_iadd dX7_readWind_102 ?_
      refine G_putNI fl_X6_windCount w_460 dX7_readWind_103 c24 ?_
      refine G.nmh fun h25 eh25 => ?_
      have hw := wp_bd hw h25 eh25
      exact G_vreturn rfl dX7_readWind_106 ⟨rfl, wp_ret hw⟩
set_option maxHeartbeats 4000000 in
set_option maxRecDepth 100000 in
theorem f_X7_readWind_17_ok {Γ : GX} (hs : SF Γ) {N : Nat} (s0 : Int32) (l0 : Nat) (h : PH) (Q : Unit → PH → Prop) (hw : wp (f_X7_readWind_17 N s0 l0 h) Q) : G Γ yX7_readWind cX7_readWind 3 none (7, 0, 0) 17 [some (.ref l0), none, none] [.int s0] h (0, 0) (q_u Q) := by
  unfold f_X7_readWind_17 at hw
  refine G_istore_n (lv' := [some (.ref l0), some (.int s0), none]) dX7_readWind_17 (Nat.le_of_ble_eq_true rfl) rfl ?_
  refine G_iload_n dX7_readWind_18 rfl ?_
  have hw := wp_if hw
  refine G_if_eq (tgt := 52) dX7_readWind_19 rfl (fun c1 => ?_) (fun c1 => ?_)
  · have hw := hw.1 c1
    refine G.less [some (.ref l0), some (.int s0), none] ⟨rfl, ⟨rfl, trivial⟩⟩ ?_
    exact f_X7_readWind_52_ok hs _ _ h Q hw
  · have hw := hw.2 c1
    refine G_aload_n dX7_readWind_22 rfl ?_
    obtain ⟨c2, hw⟩ := wp_ck hw
    refine G_getR fl_X7_tape w_561 dX7_readWind_23 c2 ?_
    obtain ⟨a3, ea3, hw⟩ := wp_rq hw
    refine G.sure ea3 ?_
    obtain ⟨c6, hw⟩ := wp_ck hw
    refine G_callV (As := []) (s_X5_isAtNumber hs a3 h _ (wp_cl hw)) ca_X5_isAtNumber w_748 w_749 (ci := 5) rfl (by decide) w_829 c6 (Nat.le_of_ble_eq_true rfl) (Nat.le_of_ble_eq_true rfl) rfl (Nat.le_of_ble_eq_true rfl) (Nat.le_of_ble_eq_true rfl) (Nat.le_of_ble_eq_true rfl) dX7_readWind_26 rfl (fun v h5 hq => ?_)
    obtain ⟨r4, rfl, hw⟩ := hq
    refine G.cse (cs' := (0, 0)) rfl ?_
    show GZ _ _ _ _ _ _ _ 29 _ (.int r4 :: []) _ _
    have hw := wp_if hw
    refine G_if_eq (tgt := 52) dX7_readWind_29 rfl (fun c7 => ?_) (fun c7 => ?_)
    · have hw := hw.1 c7
      refine G.less [some (.ref l0), some (.int s0), none] ⟨rfl, ⟨rfl, trivial⟩⟩ ?_
      exact f_X7_readWind_52_ok hs _ _ h5 Q hw
    · have hw := hw.2 c7
      refine G_aload_n dX7_readWind_32 rfl ?_
      obtain ⟨c8, hw⟩ := wp_ck hw
      refine G_getR fl_X7_tape w_561 dX7_readWind_33 c8 ?_
      obtain ⟨a9, ea9, hw⟩ := wp_rq hw
      refine G.sure ea9 ?_
      obtain ⟨c10, hw⟩ := wp_ck hw
      refine G_getNI fl_X5_number w_175 dX7_readWind_36 c10 ?_
      refine G_bipush (v := (9 : Int32)) dX7_readWind_39 (by decide) ?_
      have hw := wp_if hw
      refine G_icmp_gt (tgt := 52) dX7_readWind_41 rfl (fun c11 => ?_) (fun c11 => ?_)
      · have hw := hw.1 c11
        refine G.less [some (.ref l0), some (.int s0), none] ⟨rfl, ⟨rfl, trivial⟩⟩ ?_
        exact f_X7_readWind_52_ok hs _ _ h5 Q hw
      · have hw := hw.2 c11
        refine G_aload_n dX7_readWind_44 rfl ?_
        refine G_getR fl_X7_tape w_561 dX7_readWind_45 c8 ?_
        obtain ⟨a12, ea12, hw⟩ := wp_rq hw
        refine G.sure ea12 ?_
        refine G_iconst (v := (5 : Int32)) dX7_readWind_48 (by decide) ?_
        obtain ⟨c15, hw⟩ := wp_ck hw
        refine G_callV (As := [.int (5 : Int32)]) (s_X5_fail hs a12 (5 : Int32) h5 _ (wp_cl hw)) ca_X5_fail w_715 w_716 (ci := 5) rfl (by decide) w_714 c15 (Nat.le_of_ble_eq_true rfl) (Nat.le_of_ble_eq_true rfl) rfl (Nat.le_of_ble_eq_true rfl) (Nat.le_of_ble_eq_true rfl) (Nat.le_of_ble_eq_true rfl) dX7_readWind_49 rfl (fun v h14 hq => ?_)
        obtain ⟨rfl, hw⟩ := hq
        refine G.cse (cs' := (0, 0)) rfl ?_
        show GZ _ _ _ _ _ _ _ 52 _ [] _ _
        refine G.less [some (.ref l0), some (.int s0), none] ⟨rfl, ⟨rfl, trivial⟩⟩ ?_
        exact f_X7_readWind_52_ok hs _ _ h14 Q hw
set_option maxHeartbeats 4000000 in
set_option maxRecDepth 100000 in
theorem s_X7_readWind {Γ : GX} (hs : SF Γ) {N : Nat} (l0 : Nat) (h : PH) (Q : Unit → PH → Prop) (hw : wp (f_X7_readWind N l0 h) Q) : Spec Γ yX7_readWind cX7_readWind 3 none (7, 0, 0) [.ref l0] h (q_u Q) := by
  refine Spec.of (by decide) (Nat.le_of_ble_eq_true rfl) [some (.ref l0), none, none] rfl ?_
  unfold f_X7_readWind at hw
  refine G_aload_n dX7_readWind_0 rfl ?_
  obtain ⟨c1, hw⟩ := wp_ck hw
  refine G_getR fl_X7_valley w_562 dX7_readWind_1 c1 ?_
  obtain ⟨a2, ea2, hw⟩ := wp_rq hw
  refine G.sure ea2 ?_
  obtain ⟨c3, hw⟩ := wp_ck hw
  refine G_getNI fl_X6_windCount w_460 dX7_readWind_4 c3 ?_
  refine G_bipush (v := (12 : Int32)) dX7_readWind_7 (by decide) ?_
  have hw := wp_if hw
  refine G_icmp_lt (tgt := 16) dX7_readWind_9 rfl (fun c4 => ?_) (fun c4 => ?_)
  · have hw := hw.1 c4
    refine G_iconst (v := (0 : Int32)) dX7_readWind_16 (by decide) ?_
    refine G.less [some (.ref l0), none, none] ⟨rfl, trivial⟩ ?_
    exact f_X7_readWind_17_ok hs _ _ h Q hw
  · have hw := hw.2 c4
    refine G_iconst (v := (1 : Int32)) dX7_readWind_12 (by decide) ?_
    refine G_goto (tgt := 17) dX7_readWind_13 rfl ?_
    refine G.less [some (.ref l0), none, none] ⟨rfl, trivial⟩ ?_
    exact f_X7_readWind_17_ok hs _ _ h Q hw
set_option maxHeartbeats 4000000 in
set_option maxRecDepth 100000 in
theorem f_X7_readWinds_57_ok {Γ : GX} (hs : SF Γ) {N : Nat} (l0 : Nat) (h : PH) (Q : Unit → PH → Prop) (hw : wp (f_X7_readWinds_57 N l0 h) Q) : G Γ yX7_readWinds cX7_readWinds 2 none (8, 0, 0) 57 [some (.ref l0), none] [] h (0, 0) (q_u Q) := by
  unfold f_X7_readWinds_57 at hw
  refine G_aload_n dX7_readWinds_57 rfl ?_
  obtain ⟨c1, hw⟩ := wp_ck hw
  refine G_getR fl_X7_tape w_561 dX7_readWinds_58 c1 ?_
  obtain ⟨a2, ea2, hw⟩ := wp_rq hw
  refine G.sure ea2 ?_
  refine G_bipush (v := (59 : Int32)) dX7_readWinds_61 (by decide) ?_
  obtain ⟨c5, hw⟩ := wp_ck hw
  refine G_callV (As := [.int (59 : Int32)]) (s_X5_expectSign hs a2 (59 : Int32) h _ (wp_cl hw)) ca_X5_expectSign w_756 w_757 (ci := 5) rfl (by decide) w_755 c5 (Nat.le_of_ble_eq_true rfl) (Nat.le_of_ble_eq_true rfl) rfl (Nat.le_of_ble_eq_true rfl) (Nat.le_of_ble_eq_true rfl) (Nat.le_of_ble_eq_true rfl) dX7_readWinds_63 rfl (fun v h4 hq => ?_)
  obtain ⟨rfl, hw⟩ := hq
  refine G.cse (cs' := (0, 0)) rfl ?_
  show GZ _ _ _ _ _ _ _ 66 _ [] _ _
  exact G_vreturn rfl dX7_readWinds_66 ⟨rfl, wp_ret hw⟩
set_option maxHeartbeats 4000000 in
set_option maxRecDepth 100000 in
theorem f_X7_readWinds_31_bok {Γ : GX} (hs : SF Γ) {N : Nat} {K_31 : Nat → Int32 → PH → Option (Unit × PH)} (hK_31 : ∀ (l0 : Nat) (l1 : Int32) (h : PH) (Q : Unit → PH → Prop), wp (K_31 l0 l1 h) Q → G Γ yX7_readWinds cX7_readWinds 2 none (8, 0, 0) 31 [some (.ref l0), some (.int l1)] [] h (0, 0) (q_u Q)) (l0 : Nat) (l1 : Int32) (h : PH) (Q : Unit → PH → Prop) (hw : wp (f_X7_readWinds_31_b N K_31 l0 l1 h) Q) : G Γ yX7_readWinds cX7_readWinds 2 none (8, 0, 0) 31 [some (.ref l0), some (.int l1)] [] h (0, 0) (q_u Q) := by
  unfold f_X7_readWinds_31_b at hw
  refine G_iload_n dX7_readWinds_31 rfl ?_
  refine G_bipush (v := (12 : Int32)) dX7_readWinds_32 (by decide) ?_
  have hw := wp_if hw
  refine G_icmp_ge (tgt := 57) dX7_readWinds_34 rfl (fun c1 => ?_) (fun c1 => ?_)
  · have hw := hw.1 c1
    refine G.less [some (.ref l0), none] ⟨rfl, trivial⟩ ?_
    exact f_X7_readWinds_57_ok hs _ h Q hw
  · have hw := hw.2 c1
    refine G_aload_n dX7_readWinds_37 rfl ?_
    obtain ⟨c2, hw⟩ := wp_ck hw
    refine G_getR fl_X7_tape w_561 dX7_readWinds_38 c2 ?_
    obtain ⟨a3, ea3, hw⟩ := wp_rq hw
    refine G.sure ea3 ?_
    obtain ⟨c6, hw⟩ := wp_ck hw
    refine G_callV (As := []) (s_X5_isAtNumber hs a3 h _ (wp_cl hw)) ca_X5_isAtNumber w_748 w_749 (ci := 5) rfl (by decide) w_829 c6 (Nat.le_of_ble_eq_true rfl) (Nat.le_of_ble_eq_true rfl) rfl (Nat.le_of_ble_eq_true rfl) (Nat.le_of_ble_eq_true rfl) (Nat.le_of_ble_eq_true rfl) dX7_readWinds_41 rfl (fun v h5 hq => ?_)
    obtain ⟨r4, rfl, hw⟩ := hq
    refine G.cse (cs' := (0, 0)) rfl ?_
    show GZ _ _ _ _ _ _ _ 44 _ (.int r4 :: []) _ _
    have hw := wp_if hw
    refine G_if_eq (tgt := 57) dX7_readWinds_44 rfl (fun c7 => ?_) (fun c7 => ?_)
    · have hw := hw.1 c7
      refine G.less [some (.ref l0), none] ⟨rfl, trivial⟩ ?_
      exact f_X7_readWinds_57_ok hs _ h5 Q hw
    · have hw := hw.2 c7
      refine G_aload_n dX7_readWinds_47 rfl ?_
      obtain ⟨c10, hw⟩ := wp_ck hw
      refine G_callV (As := []) (s_X7_readWind hs l0 h5 _ (wp_cl hw)) ca_X7_readWind w_827 w_12 (ci := 7) rfl (by decide) w_825 c10 (Nat.le_of_ble_eq_true rfl) (Nat.le_of_ble_eq_true rfl) rfl (Nat.le_of_ble_eq_true rfl) (Nat.le_of_ble_eq_true rfl) (Nat.le_of_ble_eq_true rfl) dX7_readWinds_48 rfl (fun v h9 hq => ?_)
      obtain ⟨rfl, hw⟩ := hq
      refine G.cse (cs' := (0, 0)) rfl ?_
      show GZ _ _ _ _ _ _ _ 51 _ [] _ _
      obtain ⟨v11, ev11⟩ : ∃ z : Int32, z = l1 + (1 : Int32) := ⟨_, rfl⟩
      have hw := wp_bd hw v11 ev11
      refine G_iinc (v := v11) (lv' := [some (.ref l0), some (.int v11)]) dX7_readWinds_51 rfl (by rw [ev11]; rfl) (Nat.le_of_ble_eq_true rfl) rfl ?_
      refine G_goto (tgt := 31) dX7_readWinds_54 rfl ?_
      refine G.less [some (.ref l0), some (.int v11)] ⟨rfl, ⟨rfl, trivial⟩⟩ ?_
      exact hK_31 _ _ h9 Q hw
theorem f_X7_readWinds_31_ok {Γ : GX} (hs : SF Γ) {N : Nat} : ∀ (n : Nat) (l0 : Nat) (l1 : Int32) (h : PH) (Q : Unit → PH → Prop), wp (f_X7_readWinds_31 N n l0 l1 h) Q → G Γ yX7_readWinds cX7_readWinds 2 none (8, 0, 0) 31 [some (.ref l0), some (.int l1)] [] h (0, 0) (q_u Q)
  | 0, _, _, _, Q, hw => (wp_no hw).elim
  | n + 1, l0, l1, h, Q, hw => f_X7_readWinds_31_bok (N := N) hs (f_X7_readWinds_31_ok (N := N) hs n) l0 l1 h Q hw
set_option maxHeartbeats 4000000 in
set_option maxRecDepth 100000 in
theorem f_X7_readWinds_18_ok {Γ : GX} (hs : SF Γ) {N : Nat} (l0 : Nat) (h : PH) (Q : Unit → PH → Prop) (hw : wp (f_X7_readWinds_18 N l0 h) Q) : G Γ yX7_readWinds cX7_readWinds 2 none (8, 0, 0) 18 [some (.ref l0), none] [] h (0, 0) (q_u Q) := by
  unfold f_X7_readWinds_18 at hw
  refine G_aload_n dX7_readWinds_18 rfl ?_
  obtain ⟨c1, hw⟩ := wp_ck hw
  refine G_getR fl_X7_tape w_561 dX7_readWinds_19 c1 ?_
  obtain ⟨a2, ea2, hw⟩ := wp_rq hw
  refine G.sure ea2 ?_
  obtain ⟨c5, hw⟩ := wp_ck hw
  refine G_callV (As := []) (s_X5_step hs a2 h _ (wp_cl hw)) ca_X5_step w_586 w_587 (ci := 5) rfl (by decide) w_718 c5 (Nat.le_of_ble_eq_true rfl) (Nat.le_of_ble_eq_true rfl) rfl (Nat.le_of_ble_eq_true rfl) (Nat.le_of_ble_eq_true rfl) (Nat.le_of_ble_eq_true rfl) dX7_readWinds_22 rfl (fun v h4 hq => ?_)
  obtain ⟨rfl, hw⟩ := hq
  refine G.cse (cs' := (0, 0)) rfl ?_
  show GZ _ _ _ _ _ _ _ 25 _ [] _ _
  refine G_aload_n dX7_readWinds_25 rfl ?_
  obtain ⟨c8, hw⟩ := wp_ck hw
  refine G_callV (As := []) (s_X7_readWind hs l0 h4 _ (wp_cl hw)) ca_X7_readWind w_827 w_12 (ci := 7) rfl (by decide) w_825 c8 (Nat.le_of_ble_eq_true rfl) (Nat.le_of_ble_eq_true rfl) rfl (Nat.le_of_ble_eq_true rfl) (Nat.le_of_ble_eq_true rfl) (Nat.le_of_ble_eq_true rfl) dX7_readWinds_26 rfl (fun v h7 hq => ?_)
  obtain ⟨rfl, hw⟩ := hq
  refine G.cse (cs' := (0, 0)) rfl ?_
  show GZ _ _ _ _ _ _ _ 29 _ [] _ _
  refine G_iconst (v := (0 : Int32)) dX7_readWinds_29 (by decide) ?_
  refine G_istore_n (lv' := [some (.ref l0), some (.int (0 : Int32))]) dX7_readWinds_30 (Nat.le_of_ble_eq_true rfl) rfl ?_
  refine G.less [some (.ref l0), some (.int (0 : Int32))] ⟨rfl, ⟨rfl, trivial⟩⟩ ?_
  exact f_X7_readWinds_31_ok hs N _ _ h7 Q hw
set_option maxHeartbeats 4000000 in
set_option maxRecDepth 100000 in
theorem s_X7_readWinds {Γ : GX} (hs : SF Γ) {N : Nat} (l0 : Nat) (h : PH) (Q : Unit → PH → Prop) (hw : wp (f_X7_readWinds N l0 h) Q) : Spec Γ yX7_readWinds cX7_readWinds 2 none (8, 0, 0) [.ref l0] h (q_u Q) := by
  refine Spec.of (by decide) (Nat.le_of_ble_eq_true rfl) [some (.ref l0), none] rfl ?_
  unfold f_X7_readWinds at hw
  refine G_aload_n dX7_readWinds_0 rfl ?_
  obtain ⟨c1, hw⟩ := wp_ck hw
  refine G_getR fl_X7_valley w_562 dX7_readWinds_1 c1 ?_
  obtain ⟨a2, ea2, hw⟩ := wp_rq hw
  refine G.sure ea2 ?_
  obtain ⟨c3, hw⟩ := wp_ck hw
  refine G_getNI fl_X6_windCount w_460 dX7_readWinds_4 c3 ?_
  have hw := wp_if hw
  refine G_if_le (tgt := 18) dX7_readWinds_7 rfl (fun c4 => ?_) (fun c4 => ?_)
  · have hw := hw.1 c4
    refine G.less [some (.ref l0), none] ⟨rfl, trivial⟩ ?_
    exact f_X7_readWinds_18_ok hs _ h Q hw
  · have hw := hw.2 c4
    refine G_aload_n dX7_readWinds_10 rfl ?_
    refine G_getR fl_X7_tape w_561 dX7_readWinds_11 c1 ?_
    obtain ⟨a5, ea5, hw⟩ := wp_rq hw
    refine G.sure ea5 ?_
    refine G_iconst (v := (3 : Int32)) dX7_readWinds_14 (by decide) ?_
    obtain ⟨c8, hw⟩ := wp_ck hw
    refine G_callV (As := [.int (3 : Int32)]) (s_X5_fail hs a5 (3 : Int32) h _ (wp_cl hw)) ca_X5_fail w_715 w_716 (ci := 5) rfl (by decide) w_714 c8 (Nat.le_of_ble_eq_true rfl) (Nat.le_of_ble_eq_true rfl) rfl (Nat.le_of_ble_eq_true rfl) (Nat.le_of_ble_eq_true rfl) (Nat.le_of_ble_eq_true rfl) dX7_readWinds_15 rfl (fun v h7 hq => ?_)
    obtain ⟨rfl, hw⟩ := hq
    refine G.cse (cs' := (0, 0)) rfl ?_
    show GZ _ _ _ _ _ _ _ 18 _ [] _ _
    refine G.less [some (.ref l0), none] ⟨rfl, trivial⟩ ?_
    exact f_X7_readWinds_18_ok hs _ h7 Q hw
set_option maxHeartbeats 4000000 in
set_option maxRecDepth 100000 in
theorem s_X1_isTold {Γ : GX} (hs : SF Γ) {N : Nat} (l0 : Nat) (h : PH) (Q : Int32 → PH → Prop) (hw : wp (f_X1_isTold N l0 h) Q) : Spec Γ yX1_isTold cX1_isTold 1 (some .boolean) (1, 0, 0) [.ref l0] h (q_i Q) := by
  refine Spec.of (by decide) (Nat.le_of_ble_eq_true rfl) [some (.ref l0)] rfl ?_
  unfold f_X1_isTold at hw
  refine G_aload_n dX1_isTold_0 rfl ?_
  obtain ⟨c1, hw⟩ := wp_ck hw
  refine G_getI fl_X1_length w_415 dX1_isTold_1 c1 ?_
  have hw := wp_if hw
  refine G_if_le (tgt := 11) dX1_isTold_4 rfl (fun c2 => ?_) (fun c2 => ?_)
  · have hw := hw.1 c2
    refine G_iconst (v := (0 : Int32)) dX1_isTold_11 (by decide) ?_
    exact G_zreturn rfl dX1_isTold_12 rfl ⟨_, rfl, wp_ret hw⟩
  · have hw := hw.2 c2
    refine G_iconst (v := (1 : Int32)) dX1_isTold_7 (by decide) ?_
    refine G_goto (tgt := 12) dX1_isTold_8 rfl ?_
    exact G_zreturn rfl dX1_isTold_12 rfl ⟨_, rfl, wp_ret hw⟩
set_option maxHeartbeats 4000000 in
set_option maxRecDepth 100000 in
theorem f_X1_factAt_58_ok {Γ : GX} (hs : SF Γ) {N : Nat} (l0 : Nat) (l1 : Nat) (h : PH) (Q : Int32 → PH → Prop) (hw : wp (f_X1_factAt_58 N l0 l1 h) Q) : G Γ yX1_factAt cX1_factAt 2 (some .int) (2, 0, 0) 58 [some (.ref l0), some (.ref l1)] [] h (0, 0) (q_i Q) := by
  unfold f_X1_factAt_58 at hw
  refine G_aload_n dX1_factAt_58 rfl ?_
  obtain ⟨c1, hw⟩ := wp_ck hw
  refine G_getI fl_X1_ofFires w_412 dX1_factAt_59 c1 ?_
  have hw := wp_if hw
  refine G_if_eq (tgt := 80) dX1_factAt_62 rfl (fun c2 => ?_) (fun c2 => ?_)
  · have hw := hw.1 c2
    refine G_iconst (v := (0 : Int32)) dX1_factAt_80 (by decide) ?_
    exact G_ireturn rfl dX1_factAt_81 ⟨_, rfl, wp_ret hw⟩
  · have hw := hw.2 c2
    refine G_aload_n dX1_factAt_65 rfl ?_
    refine G_getsW hs 26 rfl (by decide) w_877 dX1_factAt_66 ?_
    obtain ⟨c5, hw⟩ := wp_ck hw
    refine G_callV (As := [.ref (hW h 26)]) (s_X5_isAt hs l1 (hW h 26) h _ (wp_cl hw)) ca_X5_isAt w_703 w_704 (ci := 5) rfl (by decide) w_870 c5 (Nat.le_of_ble_eq_true rfl) (Nat.le_of_ble_eq_true rfl) rfl (Nat.le_of_ble_eq_true rfl) (Nat.le_of_ble_eq_true rfl) (Nat.le_of_ble_eq_true rfl) dX1_factAt_69 rfl (fun v h4 hq => ?_)
    obtain ⟨r3, rfl, hw⟩ := hq
    refine G.cse (cs' := (0, 0)) rfl ?_
    show GZ _ _ _ _ _ _ _ 72 _ (.int r3 :: []) _ _
    have hw := wp_if hw
    refine G_if_eq (tgt := 80) dX1_factAt_72 rfl (fun c6 => ?_) (fun c6 => ?_)
    · have hw := hw.1 c6
      refine G_iconst (v := (0 : Int32)) dX1_factAt_80 (by decide) ?_
      exact G_ireturn rfl dX1_factAt_81 ⟨_, rfl, wp_ret hw⟩
    · have hw := hw.2 c6
      refine G_bipush (v := (-5 : Int32)) dX1_factAt_75 (by decide) ?_
      refine G_goto (tgt := 81) dX1_factAt_77 rfl ?_
      exact G_ireturn rfl dX1_factAt_81 ⟨_, rfl, wp_ret hw⟩
set_option maxHeartbeats 4000000 in
set_option maxRecDepth 100000 in
theorem s_X1_factAt {Γ : GX} (hs : SF Γ) {N : Nat} (l0 : Nat) (l1 : Nat) (h : PH) (Q : Int32 → PH → Prop) (hw : wp (f_X1_factAt N l0 l1 h) Q) : Spec Γ yX1_factAt cX1_factAt 2 (some .int) (2, 0, 0) [.ref l0, .ref l1] h (q_i Q) := by
  refine Spec.of (by decide) (Nat.le_of_ble_eq_true rfl) [some (.ref l0), some (.ref l1)] rfl ?_
  unfold f_X1_factAt at hw
  refine G_aload_n dX1_factAt_0 rfl ?_
  refine G_getsW hs 22 rfl (by decide) w_868 dX1_factAt_1 ?_
  obtain ⟨c3, hw⟩ := wp_ck hw
  refine G_callV (As := [.ref (hW h 22)]) (s_X5_isAt hs l1 (hW h 22) h _ (wp_cl hw)) ca_X5_isAt w_703 w_704 (ci := 5) rfl (by decide) w_870 c3 (Nat.le_of_ble_eq_true rfl) (Nat.le_of_ble_eq_true rfl) rfl (Nat.le_of_ble_eq_true rfl) (Nat.le_of_ble_eq_true rfl) (Nat.le_of_ble_eq_true rfl) dX1_factAt_4 rfl (fun v h2 hq => ?_)
  obtain ⟨r1, rfl, hw⟩ := hq
  refine G.cse (cs' := (0, 0)) rfl ?_
  show GZ _ _ _ _ _ _ _ 7 _ (.int r1 :: []) _ _
  have hw := wp_if hw
  refine G_if_eq (tgt := 12) dX1_factAt_7 rfl (fun c4 => ?_) (fun c4 => ?_)
  · have hw := hw.1 c4
    refine G_aload_n dX1_factAt_12 rfl ?_
    refine G_getsW hs 23 rfl (by decide) w_871 dX1_factAt_13 ?_
    obtain ⟨c7, hw⟩ := wp_ck hw
    refine G_callV (As := [.ref (hW h2 23)]) (s_X5_isAt hs l1 (hW h2 23) h2 _ (wp_cl hw)) ca_X5_isAt w_703 w_704 (ci := 5) rfl (by decide) w_870 c7 (Nat.le_of_ble_eq_true rfl) (Nat.le_of_ble_eq_true rfl) rfl (Nat.le_of_ble_eq_true rfl) (Nat.le_of_ble_eq_true rfl) (Nat.le_of_ble_eq_true rfl) dX1_factAt_16 rfl (fun v h6 hq => ?_)
    obtain ⟨r5, rfl, hw⟩ := hq
    refine G.cse (cs' := (0, 0)) rfl ?_
    show GZ _ _ _ _ _ _ _ 19 _ (.int r5 :: []) _ _
    have hw := wp_if hw
    refine G_if_eq (tgt := 25) dX1_factAt_19 rfl (fun c8 => ?_) (fun c8 => ?_)
    · have hw := hw.1 c8
      refine G_aload_n dX1_factAt_25 rfl ?_
      refine G_getsW hs 24 rfl (by decide) w_873 dX1_factAt_26 ?_
      obtain ⟨c11, hw⟩ := wp_ck hw
      refine G_callV (As := [.ref (hW h6 24)]) (s_X5_isAt hs l1 (hW h6 24) h6 _ (wp_cl hw)) ca_X5_isAt w_703 w_704 (ci := 5) rfl (by decide) w_870 c11 (Nat.le_of_ble_eq_true rfl) (Nat.le_of_ble_eq_true rfl) rfl (Nat.le_of_ble_eq_true rfl) (Nat.le_of_ble_eq_true rfl) (Nat.le_of_ble_eq_true rfl) dX1_factAt_29 rfl (fun v h10 hq => ?_)
      obtain ⟨r9, rfl, hw⟩ := hq
      refine G.cse (cs' := (0, 0)) rfl ?_
      show GZ _ _ _ _ _ _ _ 32 _ (.int r9 :: []) _ _
      have hw := wp_if hw
      refine G_if_eq (tgt := 38) dX1_factAt_32 rfl (fun c12 => ?_) (fun c12 => ?_)
      · have hw := hw.1 c12
        refine G_aload_n dX1_factAt_38 rfl ?_
        obtain ⟨c13, hw⟩ := wp_ck hw
        refine G_getI fl_X1_ofFires w_412 dX1_factAt_39 c13 ?_
        have hw := wp_if hw
        refine G_if_eq (tgt := 58) dX1_factAt_42 rfl (fun c14 => ?_) (fun c14 => ?_)
        · have hw := hw.1 c14
          refine G.less [some (.ref l0), some (.ref l1)] ⟨rfl, ⟨rfl, trivial⟩⟩ ?_
          exact f_X1_factAt_58_ok hs _ _ h10 Q hw
        · have hw := hw.2 c14
          refine G_aload_n dX1_factAt_45 rfl ?_
          refine G_getsW hs 25 rfl (by decide) w_875 dX1_factAt_46 ?_
          obtain ⟨c17, hw⟩ := wp_ck hw
          refine G_callV (As := [.ref (hW h10 25)]) (s_X5_isAt hs l1 (hW h10 25) h10 _ (wp_cl hw)) ca_X5_isAt w_703 w_704 (ci := 5) rfl (by decide) w_870 c17 (Nat.le_of_ble_eq_true rfl) (Nat.le_of_ble_eq_true rfl) rfl (Nat.le_of_ble_eq_true rfl) (Nat.le_of_ble_eq_true rfl) (Nat.le_of_ble_eq_true rfl) dX1_factAt_49 rfl (fun v h16 hq => ?_)
          obtain ⟨r15, rfl, hw⟩ := hq
          refine G.cse (cs' := (0, 0)) rfl ?_
          show GZ _ _ _ _ _ _ _ 52 _ (.int r15 :: []) _ _
          have hw := wp_if hw
          refine G_if_eq (tgt := 58) dX1_factAt_52 rfl (fun c18 => ?_) (fun c18 => ?_)
          · have hw := hw.1 c18
            refine G.less [some (.ref l0), some (.ref l1)] ⟨rfl, ⟨rfl, trivial⟩⟩ ?_
            exact f_X1_factAt_58_ok hs _ _ h16 Q hw
          · have hw := hw.2 c18
            refine G_bipush (v := (-4 : Int32)) dX1_factAt_55 (by decide) ?_
            exact G_ireturn rfl dX1_factAt_57 ⟨_, rfl, wp_ret hw⟩
      · have hw := hw.2 c12
        refine G_bipush (v := (-3 : Int32)) dX1_factAt_35 (by decide) ?_
        exact G_ireturn rfl dX1_factAt_37 ⟨_, rfl, wp_ret hw⟩
    · have hw := hw.2 c8
      refine G_bipush (v := (-2 : Int32)) dX1_factAt_22 (by decide) ?_
      exact G_ireturn rfl dX1_factAt_24 ⟨_, rfl, wp_ret hw⟩
  · have hw := hw.2 c4
    refine G_iconst (v := (-1 : Int32)) dX1_factAt_10 (by decide) ?_
    exact G_ireturn rfl dX1_factAt_11 ⟨_, rfl, wp_ret hw⟩
set_option maxHeartbeats 4000000 in
set_option maxRecDepth 100000 in
theorem s_X1_put {Γ : GX} (hs : SF Γ) {N : Nat} (l0 : Nat) (l1 : Int32) (h : PH) (Q : Unit → PH → Prop) (hw : wp (f_X1_put N l0 l1 h) Q) : Spec Γ yX1_put cX1_put 2 none (1, 0, 0) [.ref l0, .int l1] h (q_u Q) := by
  refine Spec.of (by decide) (Nat.le_of_ble_eq_true rfl) [some (.ref l0), some (.int l1)] rfl ?_
  unfold f_X1_put at hw
  refine G_aload_n dX1_put_0 rfl ?_
  obtain ⟨c1, hw⟩ := wp_ck hw
  refine G_getI fl_X1_length w_415 dX1_put_1 c1 ?_
  refine G_aload_n dX1_put_4 rfl ?_
  refine G_getR fl_X1_code w_413 dX1_put_5 c1 ?_
  obtain ⟨a2, ea2, hw⟩ := wp_rq hw
  refine G.sure ea2 ?_
  obtain ⟨c3, hw⟩ := wp_ck hw
  refine G_alen12 dX1_put_8 c3 ?_
  have hw := wp_if hw
  refine G_icmp_ge (tgt := 32) dX1_put_9 rfl (fun c4 => ?_) (fun c4 => ?_)
  · have hw := hw.1 c4
    exact G_vreturn rfl dX1_put_32 ⟨rfl, wp_ret hw⟩
  · have hw := hw.2 c4
    refine G_aload_n dX1_put_12 rfl ?_
    refine G_getR fl_X1_code w_413 dX1_put_13 c1 ?_
    obtain ⟨a5, ea5, hw⟩ := wp_rq hw
    refine G.sure ea5 ?_
    refine G_aload_n dX1_put_16 rfl ?_
    refine G_getI fl_X1_length w_415 dX1_put_17 c1 ?_
    refine G_iload_n dX1_put_20 rfl ?_
    obtain ⟨c6, hw⟩ := wp_ck hw
    obtain ⟨c7, hw⟩ := wp_ck hw
    refine G_iastore dX1_put_21 c6 c7 ?_
    refine G.nmh fun h8 eh8 => ?_
    have hw := wp_bd hw h8 eh8
    refine G_aload_n dX1_put_22 rfl ?_
    refine G_dup dX1_put_23 rfl ?_
    obtain ⟨c9, hw⟩ := wp_ck hw
    refine G_getI fl_X1_length w_415 dX1_put_24 c9 ?_
    refine G_iconst (v := (1 : Int32)) dX1_put_27 (by decide) ?_
    refine G_iadd dX1_put_28 ?_
    refine G_putI fl_X1_length w_415 dX1_put_29 c9 ?_
    refine G.nmh fun h10 eh10 => ?_
    have hw := wp_bd hw h10 eh10
    exact G_vreturn rfl dX1_put_32 ⟨rfl, wp_ret hw⟩
set_option maxHeartbeats 4000000 in
set_option maxRecDepth 100000 in
theorem f_X1_readTests_46_ok {Γ : GX} (hs : SF Γ) {d : Nat} {R_X1_readTest : Nat → Nat → Int32 → PH → Option (Unit × PH)} (hR_X1_readTest : ∀ (z0 : Nat) (z1 : Nat) (z2 : Int32) (h : PH) (Q : Unit → PH → Prop), wp (R_X1_readTest z0 z1 z2 h) Q → Spec Γ yX1_readTest cX1_readTest 4 none (6 + d, 0, 0) [.ref z0, .ref z1, .int z2] h (q_u Q)) {N : Nat} {K_8 : Nat → Nat → Int32 → Int32 → PH → Option (Unit × PH)} (hK_8 : ∀ (l0 : Nat) (l1 : Nat) (l2 : Int32) (l3 : Int32) (h : PH) (Q : Unit → PH → Prop), wp (K_8 l0 l1 l2 l3 h) Q → G Γ yX1_readTests cX1_readTests 5 none (6 + (d + 1), 0, 0) 8 [some (.ref l0), some (.ref l1), some (.int l2), some (.int l3), none] [] h (0, 0) (q_u Q)) (s0 : Int32) (l0 : Nat) (l1 : Nat) (l2 : Int32) (l3 : Int32) (h : PH) (Q : Unit → PH → Prop) (hw : wp (f_X1_readTests_46 R_X1_readTest N K_8 s0 l0 l1 l2 l3 h) Q) : G Γ yX1_readTests cX1_readTests 5 none (6 + (d + 1), 0, 0) 46 [some (.ref l0), some (.ref l1), some (.int l2), some (.int l3), none] [.int s0] h (0, 0) (q_u Q) := by
  unfold f_X1_readTests_46 at hw
  refine G_istore (lv' := [some (.ref l0), some (.ref l1), some (.int l2), some (.int l3), some (.int s0)]) dX1_readTests_46 (Nat.le_of_ble_eq_true rfl) rfl ?_
  refine G_iload dX1_readTests_48 rfl ?_
  have hw := wp_if hw
  refine G_if_ne (tgt := 54) dX1_readTests_50 rfl (fun c1 => ?_) (fun c1 => ?_)
  · have hw := hw.2 c1
    refine G_aload_n dX1_readTests_54 rfl ?_
    obtain ⟨c4, hw⟩ := wp_ck hw
    refine G_callV (As := []) (s_X5_step hs l1 h _ (wp_cl hw)) ca_X5_step w_586 w_587 (ci := 5) rfl (by decide) w_884 c4 (by show 5 + 1 ≤ 6 + (d + 1); omega) (Nat.le_of_ble_eq_true rfl) rfl (Nat.le_of_ble_eq_true rfl) (Nat.le_of_ble_eq_true rfl) (Nat.le_of_ble_eq_true rfl) dX1_readTests_55 rfl (fun v h3 hq => ?_)
    obtain ⟨rfl, hw⟩ := hq
    refine G.cse (cs' := (0, 0)) rfl ?_
    show GZ _ _ _ _ _ _ _ 58 _ [] _ _
    refine G_aload_n dX1_readTests_58 rfl ?_
    refine G_aload_n dX1_readTests_59 rfl ?_
    refine G_iload_n dX1_readTests_60 rfl ?_
    obtain ⟨c7, hw⟩ := wp_ck hw
    refine G_callV (As := [.ref l1, .int l2]) (hR_X1_readTest l0 l1 l2 h3 _ (wp_cl hw)) ca_X1_readTest w_850 w_15 (ci := 1) rfl (by decide) w_848 c7 (Nat.le_refl _) (Nat.le_of_ble_eq_true rfl) rfl (Nat.le_of_ble_eq_true rfl) (Nat.le_of_ble_eq_true rfl) (Nat.le_of_ble_eq_true rfl) dX1_readTests_61 rfl (fun v h6 hq => ?_)
    obtain ⟨rfl, hw⟩ := hq
    refine G.cse (cs' := (0, 0)) rfl ?_
    show GZ _ _ _ _ _ _ _ 64 _ [] _ _
    refine G_aload_n dX1_readTests_64 rfl ?_
    refine G_iload dX1_readTests_65 rfl ?_
    obtain ⟨c10, hw⟩ := wp_ck hw
    refine G_callV (As := [.int s0]) (s_X1_put hs l0 s0 h6 _ (wp_cl hw)) ca_X1_put w_887 w_20 (ci := 1) rfl (by decide) w_885 c10 (by show 1 + 1 ≤ 6 + (d + 1); omega) (Nat.le_of_ble_eq_true rfl) rfl (Nat.le_of_ble_eq_true rfl) (Nat.le_of_ble_eq_true rfl) (Nat.le_of_ble_eq_true rfl) dX1_readTests_67 rfl (fun v h9 hq => ?_)
    obtain ⟨rfl, hw⟩ := hq
    refine G.cse (cs' := (0, 0)) rfl ?_
    show GZ _ _ _ _ _ _ _ 70 _ [] _ _
    obtain ⟨v11, ev11⟩ : ∃ z : Int32, z = l3 + (1 : Int32) := ⟨_, rfl⟩
    have hw := wp_bd hw v11 ev11
    refine G_iinc (v := v11) (lv' := [some (.ref l0), some (.ref l1), some (.int l2), some (.int v11), some (.int s0)]) dX1_readTests_70 rfl (by rw [ev11]; rfl) (Nat.le_of_ble_eq_true rfl) rfl ?_
    refine G_goto (tgt := 8) dX1_readTests_73 rfl ?_
    refine G.less [some (.ref l0), some (.ref l1), some (.int l2), some (.int v11), none] ⟨rfl, ⟨rfl, ⟨rfl, ⟨rfl, trivial⟩⟩⟩⟩ ?_
    exact hK_8 _ _ _ _ h9 Q hw
  · have hw := hw.1 c1
    exact G_vreturn rfl dX1_readTests_53 ⟨rfl, wp_ret hw⟩
set_option maxHeartbeats 4000000 in
set_option maxRecDepth 100000 in
theorem f_X1_readTests_8_bok {Γ : GX} (hs : SF Γ) {d : Nat} {R_X1_readTest : Nat → Nat → Int32 → PH → Option (Unit × PH)} (hR_X1_readTest : ∀ (z0 : Nat) (z1 : Nat) (z2 : Int32) (h : PH) (Q : Unit → PH → Prop), wp (R_X1_readTest z0 z1 z2 h) Q → Spec Γ yX1_readTest cX1_readTest 4 none (6 + d, 0, 0) [.ref z0, .ref z1, .int z2] h (q_u Q)) {N : Nat} {K_8 : Nat → Nat → Int32 → Int32 → PH → Option (Unit × PH)} (hK_8 : ∀ (l0 : Nat) (l1 : Nat) (l2 : Int32) (l3 : Int32) (h : PH) (Q : Unit → PH → Prop), wp (K_8 l0 l1 l2 l3 h) Q → G Γ yX1_readTests cX1_readTests 5 none (6 + (d + 1), 0, 0) 8 [some (.ref l0), some (.ref l1), some (.int l2), some (.int l3), none] [] h (0, 0) (q_u Q)) (l0 : Nat) (l1 : Nat) (l2 : Int32) (l3 : Int32) (h : PH) (Q : Unit → PH → Prop) (hw : wp (f_X1_readTests_8_b R_X1_readTest N K_8 l0 l1 l2 l3 h) Q) : G Γ yX1_readTests cX1_readTests 5 none (6 + (d + 1), 0, 0) 8 [some (.ref l0), some (.ref l1), some (.int l2), some (.int l3), none] [] h (0, 0) (q_u Q) := by
  unfold f_X1_readTests_8_b at hw
  refine G_iload_n dX1_readTests_8 rfl ?_
  refine G_sipush (v := (1000 : Int32)) dX1_readTests_9 (by decide) ?_
  have hw := wp_if hw
  refine G_icmp_ge (tgt := 76) dX1_readTests_12 rfl (fun c1 => ?_) (fun c1 => ?_)
  · have hw := hw.1 c1
    exact G_vreturn rfl dX1_readTests_76 ⟨rfl, wp_ret hw⟩
  · have hw := hw.2 c1
    refine G_aload_n dX1_readTests_15 rfl ?_
    refine G_getsW hs 20 rfl (by decide) w_889 dX1_readTests_16 ?_
    obtain ⟨c4, hw⟩ := wp_ck hw
    refine G_callV (As := [.ref (hW h 20)]) (s_X5_isAt hs l1 (hW h 20) h _ (wp_cl hw)) ca_X5_isAt w_703 w_704 (ci := 5) rfl (by decide) w_870 c4 (by show 1 + 1 ≤ 6 + (d + 1); omega) (Nat.le_of_ble_eq_true rfl) rfl (Nat.le_of_ble_eq_true rfl) (Nat.le_of_ble_eq_true rfl) (Nat.le_of_ble_eq_true rfl) dX1_readTests_19 rfl (fun v h3 hq => ?_)
    obtain ⟨r2, rfl, hw⟩ := hq
    refine G.cse (cs' := (0, 0)) rfl ?_
    show GZ _ _ _ _ _ _ _ 22 _ (.int r2 :: []) _ _
    have hw := wp_if hw
    refine G_if_eq (tgt := 30) dX1_readTests_22 rfl (fun c5 => ?_) (fun c5 => ?_)
    · have hw := hw.1 c5
      refine G_aload_n dX1_readTests_30 rfl ?_
      refine G_getsW hs 21 rfl (by decide) w_891 dX1_readTests_31 ?_
      obtain ⟨c8, hw⟩ := wp_ck hw
      refine G_callV (As := [.ref (hW h3 21)]) (s_X5_isAt hs l1 (hW h3 21) h3 _ (wp_cl hw)) ca_X5_isAt w_703 w_704 (ci := 5) rfl (by decide) w_870 c8 (by show 1 + 1 ≤ 6 + (d + 1); omega) (Nat.le_of_ble_eq_true rfl) rfl (Nat.le_of_ble_eq_true rfl) (Nat.le_of_ble_eq_true rfl) (Nat.le_of_ble_eq_true rfl) dX1_readTests_34 rfl (fun v h7 hq => ?_)
      obtain ⟨r6, rfl, hw⟩ := hq
      refine G.cse (cs' := (0, 0)) rfl ?_
      show GZ _ _ _ _ _ _ _ 37 _ (.int r6 :: []) _ _
      have hw := wp_if hw
      refine G_if_eq (tgt := 45) dX1_readTests_37 rfl (fun c9 => ?_) (fun c9 => ?_)
      · have hw := hw.1 c9
        refine G_iconst (v := (0 : Int32)) dX1_readTests_45 (by decide) ?_
        refine G.less [some (.ref l0), some (.ref l1), some (.int l2), some (.int l3), none] ⟨rfl, ⟨rfl, ⟨rfl, ⟨rfl, trivial⟩⟩⟩⟩ ?_
        exact f_X1_readTests_46_ok hs hR_X1_readTest hK_8 _ _ _ _ _ h7 Q hw
      · have hw := hw.2 c9
        refine G_bipush (v := (-8 : Int32)) dX1_readTests_40 (by decide) ?_
        refine G_goto (tgt := 46) dX1_readTests_42 rfl ?_
        refine G.less [some (.ref l0), some (.ref l1), some (.int l2), some (.int l3), none] ⟨rfl, ⟨rfl, ⟨rfl, ⟨rfl, trivial⟩⟩⟩⟩ ?_
        exact f_X1_readTests_46_ok hs hR_X1_readTest hK_8 _ _ _ _ _ h7 Q hw
    · have hw := hw.2 c5
      refine G_bipush (v := (-7 : Int32)) dX1_readTests_25 (by decide) ?_
      refine G_goto (tgt := 46) dX1_readTests_27 rfl ?_
      refine G.less [some (.ref l0), some (.ref l1), some (.int l2), some (.int l3), none] ⟨rfl, ⟨rfl, ⟨rfl, ⟨rfl, trivial⟩⟩⟩⟩ ?_
      exact f_X1_readTests_46_ok hs hR_X1_readTest hK_8 _ _ _ _ _ h3 Q hw
theorem f_X1_readTests_8_ok {Γ : GX} (hs : SF Γ) {d : Nat} {R_X1_readTest : Nat → Nat → Int32 → PH → Option (Unit × PH)} (hR_X1_readTest : ∀ (z0 : Nat) (z1 : Nat) (z2 : Int32) (h : PH) (Q : Unit → PH → Prop), wp (R_X1_readTest z0 z1 z2 h) Q → Spec Γ yX1_readTest cX1_readTest 4 none (6 + d, 0, 0) [.ref z0, .ref z1, .int z2] h (q_u Q)) {N : Nat} : ∀ (n : Nat) (l0 : Nat) (l1 : Nat) (l2 : Int32) (l3 : Int32) (h : PH) (Q : Unit → PH → Prop), wp (f_X1_readTests_8 R_X1_readTest N n l0 l1 l2 l3 h) Q → G Γ yX1_readTests cX1_readTests 5 none (6 + (d + 1), 0, 0) 8 [some (.ref l0), some (.ref l1), some (.int l2), some (.int l3), none] [] h (0, 0) (q_u Q)
  | 0, _, _, _, _, _, Q, hw => (wp_no hw).elim
  | n + 1, l0, l1, l2, l3, h, Q, hw => f_X1_readTests_8_bok (N := N) hs hR_X1_readTest (f_X1_readTests_8_ok (N := N) hs hR_X1_readTest n) l0 l1 l2 l3 h Q hw
set_option maxHeartbeats 4000000 in
set_option maxRecDepth 100000 in
theorem s_X1_readTests_b {Γ : GX} (hs : SF Γ) {d : Nat} {R_X1_readTest : Nat → Nat → Int32 → PH → Option (Unit × PH)} (hR_X1_readTest : ∀ (z0 : Nat) (z1 : Nat) (z2 : Int32) (h : PH) (Q : Unit → PH → Prop), wp (R_X1_readTest z0 z1 z2 h) Q → Spec Γ yX1_readTest cX1_readTest 4 none (6 + d, 0, 0) [.ref z0, .ref z1, .int z2] h (q_u Q)) {N : Nat} (l0 : Nat) (l1 : Nat) (l2 : Int32) (h : PH) (Q : Unit → PH → Prop) (hw : wp (f_X1_readTests_b R_X1_readTest N l0 l1 l2 h) Q) : Spec Γ yX1_readTests cX1_readTests 5 none (6 + (d + 1), 0, 0) [.ref l0, .ref l1, .int l2] h (q_u Q) := by
  refine Spec.of (by decide) (Nat.le_of_ble_eq_true rfl) [some (.ref l0), some (.ref l1), some (.int l2), none, none] rfl ?_
  unfold f_X1_readTests_b at hw
  refine G_aload_n dX1_readTests_0 rfl ?_
  refine G_aload_n dX1_readTests_1 rfl ?_
  refine G_iload_n dX1_readTests_2 rfl ?_
  obtain ⟨c3, hw⟩ := wp_ck hw
  refine G_callV (As := [.ref l1, .int l2]) (hR_X1_readTest l0 l1 l2 h _ (wp_cl hw)) ca_X1_readTest w_850 w_15 (ci := 1) rfl (by decide) w_848 c3 (Nat.le_refl _) (Nat.le_of_ble_eq_true rfl) rfl (Nat.le_of_ble_eq_true rfl) (Nat.le_of_ble_eq_true rfl) (Nat.le_of_ble_eq_true rfl) dX1_readTests_3 rfl (fun v h2 hq => ?_)
  obtain ⟨rfl, hw⟩ := hq
  refine G.cse (cs' := (0, 0)) rfl ?_
  show GZ _ _ _ _ _ _ _ 6 _ [] _ _
  refine G_iconst (v := (0 : Int32)) dX1_readTests_6 (by decide) ?_
  refine G_istore_n (lv' := [some (.ref l0), some (.ref l1), some (.int l2), some (.int (0 : Int32)), none]) dX1_readTests_7 (Nat.le_of_ble_eq_true rfl) rfl ?_
  refine G.less [some (.ref l0), some (.ref l1), some (.int l2), some (.int (0 : Int32)), none] ⟨rfl, ⟨rfl, ⟨rfl, ⟨rfl, trivial⟩⟩⟩⟩ ?_
  exact f_X1_readTests_8_ok hs hR_X1_readTest N _ _ _ _ h2 Q hw
set_option maxHeartbeats 4000000 in
set_option maxRecDepth 100000 in
theorem f_X1_readTest_35_ok {Γ : GX} (hs : SF Γ) {d : Nat} {R_X1_readSum : Nat → Nat → Int32 → PH → Option (Unit × PH)} (hR_X1_readSum : ∀ (z0 : Nat) (z1 : Nat) (z2 : Int32) (h : PH) (Q : Unit → PH → Prop), wp (R_X1_readSum z0 z1 z2 h) Q → Spec Γ yX1_readSum cX1_readSum 5 none (6 + d, 0, 0) [.ref z0, .ref z1, .int z2] h (q_u Q)) {N : Nat} (s0 : Int32) (l0 : Nat) (l1 : Nat) (l2 : Int32) (h : PH) (Q : Unit → PH → Prop) (hw : wp (f_X1_readTest_35 R_X1_readSum N s0 l0 l1 l2 h) Q) : G Γ yX1_readTest cX1_readTest 4 none (6 + (d + 1), 0, 0) 35 [some (.ref l0), some (.ref l1), some (.int l2), none] [.int s0] h (0, 0) (q_u Q) := by
  unfold f_X1_readTest_35 at hw
  refine G_istore_n (lv' := [some (.ref l0), some (.ref l1), some (.int l2), some (.int s0)]) dX1_readTest_35 (Nat.le_of_ble_eq_true rfl) rfl ?_
  refine G_iload_n dX1_readTest_36 rfl ?_
  have hw := wp_if hw
  refine G_if_eq (tgt := 55) dX1_readTest_37 rfl (fun c1 => ?_) (fun c1 => ?_)
  · have hw := hw.1 c1
    exact G_vreturn rfl dX1_readTest_55 ⟨rfl, wp_ret hw⟩
  · have hw := hw.2 c1
    refine G_aload_n dX1_readTest_40 rfl ?_
    obtain ⟨c4, hw⟩ := wp_ck hw
    refine G_callV (As := []) (s_X5_step hs l1 h _ (wp_cl hw)) ca_X5_step w_586 w_587 (ci := 5) rfl (by decide) w_884 c4 (by show 5 + 1 ≤ 6 + (d + 1); omega) (Nat.le_of_ble_eq_true rfl) rfl (Nat.le_of_ble_eq_true rfl) (Nat.le_of_ble_eq_true rfl) (Nat.le_of_ble_eq_true rfl) dX1_readTest_41 rfl (fun v h3 hq => ?_)
    obtain ⟨rfl, hw⟩ := hq
    refine G.cse (cs' := (0, 0)) rfl ?_
    show GZ _ _ _ _ _ _ _ 44 _ [] _ _
    refine G_aload_n dX1_readTest_44 rfl ?_
    refine G_aload_n dX1_readTest_45 rfl ?_
    refine G_iload_n dX1_readTest_46 rfl ?_
    obtain ⟨c7, hw⟩ := wp_ck hw
    refine G_callV (As := [.ref l1, .int l2]) (hR_X1_readSum l0 l1 l2 h3 _ (wp_cl hw)) ca_X1_readSum w_854 w_16 (ci := 1) rfl (by decide) w_852 c7 (Nat.le_refl _) (Nat.le_of_ble_eq_true rfl) rfl (Nat.le_of_ble_eq_true rfl) (Nat.le_of_ble_eq_true rfl) (Nat.le_of_ble_eq_true rfl) dX1_readTest_47 rfl (fun v h6 hq => ?_)
    obtain ⟨rfl, hw⟩ := hq
    refine G.cse (cs' := (0, 0)) rfl ?_
    show GZ _ _ _ _ _ _ _ 50 _ [] _ _
    refine G_aload_n dX1_readTest_50 rfl ?_
    refine G_iload_n dX1_readTest_51 rfl ?_
    obtain ⟨c10, hw⟩ := wp_ck hw
    refine G_callV (As := [.int s0]) (s_X1_put hs l0 s0 h6 _ (wp_cl hw)) ca_X1_put w_887 w_20 (ci := 1) rfl (by decide) w_885 c10 (by show 1 + 1 ≤ 6 + (d + 1); omega) (Nat.le_of_ble_eq_true rfl) rfl (Nat.le_of_ble_eq_true rfl) (Nat.le_of_ble_eq_true rfl) (Nat.le_of_ble_eq_true rfl) dX1_readTest_52 rfl (fun v h9 hq => ?_)
    obtain ⟨rfl, hw⟩ := hq
    refine G.cse (cs' := (0, 0)) rfl ?_
    show GZ _ _ _ _ _ _ _ 55 _ [] _ _
    exact G_vreturn rfl dX1_readTest_55 ⟨rfl, wp_ret hw⟩
set_option maxHeartbeats 4000000 in
set_option maxRecDepth 100000 in
theorem s_X1_readTest_b {Γ : GX} (hs : SF Γ) {d : Nat} {R_X1_readSum : Nat → Nat → Int32 → PH → Option (Unit × PH)} (hR_X1_readSum : ∀ (z0 : Nat) (z1 : Nat) (z2 : Int32) (h : PH) (Q : Unit → PH → Prop), wp (R_X1_readSum z0 z1 z2 h) Q → Spec Γ yX1_readSum cX1_readSum 5 none (6 + d, 0, 0) [.ref z0, .ref z1, .int z2] h (q_u Q)) {N : Nat} (l0 : Nat) (l1 : Nat) (l2 : Int32) (h : PH) (Q : Unit → PH → Prop) (hw : wp (f_X1_readTest_b R_X1_readSum N l0 l1 l2 h) Q) : Spec Γ yX1_readTest cX1_readTest 4 none (6 + (d + 1), 0, 0) [.ref l0, .ref l1, .int l2] h (q_u Q) := by
  refine Spec.of (by decide) (Nat.le_of_ble_eq_true rfl) [some (.ref l0), some (.ref l1), some (.int l2), none] rfl ?_
  unfold f_X1_readTest_b at hw
  refine G_aload_n dX1_readTest_0 rfl ?_
  refine G_aload_n dX1_readTest_1 rfl ?_
  refine G_iload_n dX1_readTest_2 rfl ?_
  obtain ⟨c3, hw⟩ := wp_ck hw
  refine G_callV (As := [.ref l1, .int l2]) (hR_X1_readSum l0 l1 l2 h _ (wp_cl hw)) ca_X1_readSum w_854 w_16 (ci := 1) rfl (by decide) w_852 c3 (Nat.le_refl _) (Nat.le_of_ble_eq_true rfl) rfl (Nat.le_of_ble_eq_true rfl) (Nat.le_of_ble_eq_true rfl) (Nat.le_of_ble_eq_true rfl) dX1_readTest_3 rfl (fun v h2 hq => ?_)
  obtain ⟨rfl, hw⟩ := hq
  refine G.cse (cs' := (0, 0)) rfl ?_
  show GZ _ _ _ _ _ _ _ 6 _ [] _ _
  refine G_aload_n dX1_readTest_6 rfl ?_
  refine G_bipush (v := (60 : Int32)) dX1_readTest_7 (by decide) ?_
  obtain ⟨c6, hw⟩ := wp_ck hw
  refine G_callV (As := [.int (60 : Int32)]) (s_X5_isAtSign hs l1 (60 : Int32) h2 _ (wp_cl hw)) ca_X5_isAtSign w_760 w_761 (ci := 5) rfl (by decide) w_881 c6 (by show 1 + 1 ≤ 6 + (d + 1); omega) (Nat.le_of_ble_eq_true rfl) rfl (Nat.le_of_ble_eq_true rfl) (Nat.le_of_ble_eq_true rfl) (Nat.le_of_ble_eq_true rfl) dX1_readTest_9 rfl (fun v h5 hq => ?_)
  obtain ⟨r4, rfl, hw⟩ := hq
  refine G.cse (cs' := (0, 0)) rfl ?_
  show GZ _ _ _ _ _ _ _ 12 _ (.int r4 :: []) _ _
  have hw := wp_if hw
  refine G_if_eq (tgt := 20) dX1_readTest_12 rfl (fun c7 => ?_) (fun c7 => ?_)
  · have hw := hw.1 c7
    refine G_aload_n dX1_readTest_20 rfl ?_
    refine G_bipush (v := (61 : Int32)) dX1_readTest_21 (by decide) ?_
    obtain ⟨c10, hw⟩ := wp_ck hw
    refine G_callV (As := [.int (61 : Int32)]) (s_X5_isAtSign hs l1 (61 : Int32) h5 _ (wp_cl hw)) ca_X5_isAtSign w_760 w_761 (ci := 5) rfl (by decide) w_881 c10 (by show 1 + 1 ≤ 6 + (d + 1); omega) (Nat.le_of_ble_eq_true rfl) rfl (Nat.le_of_ble_eq_true rfl) (Nat.le_of_ble_eq_true rfl) (Nat.le_of_ble_eq_true rfl) dX1_readTest_23 rfl (fun v h9 hq => ?_)
    obtain ⟨r8, rfl, hw⟩ := hq
    refine G.cse (cs' := (0, 0)) rfl ?_
    show GZ _ _ _ _ _ _ _ 26 _ (.int r8 :: []) _ _
    have hw := wp_if hw
    refine G_if_eq (tgt := 34) dX1_readTest_26 rfl (fun c11 => ?_) (fun c11 => ?_)
    · have hw := hw.1 c11
      refine G_iconst (v := (0 : Int32)) dX1_readTest_34 (by decide) ?_
      refine G.less [some (.ref l0), some (.ref l1), some (.int l2), none] ⟨rfl, ⟨rfl, ⟨rfl, trivial⟩⟩⟩ ?_
      exact f_X1_readTest_35_ok hs hR_X1_readSum _ _ _ _ h9 Q hw
    · have hw := hw.2 c11
      refine G_bipush (v := (-10 : Int32)) dX1_readTest_29 (by decide) ?_
      refine G_goto (tgt := 35) dX1_readTest_31 rfl ?_
      refine G.less [some (.ref l0), some (.ref l1), some (.int l2), none] ⟨rfl, ⟨rfl, ⟨rfl, trivial⟩⟩⟩ ?_
      exact f_X1_readTest_35_ok hs hR_X1_readSum _ _ _ _ h9 Q hw
  · have hw := hw.2 c7
    refine G_bipush (v := (-9 : Int32)) dX1_readTest_15 (by decide) ?_
    refine G_goto (tgt := 35) dX1_readTest_17 rfl ?_
    refine G.less [some (.ref l0), some (.ref l1), some (.int l2), none] ⟨rfl, ⟨rfl, ⟨rfl, trivial⟩⟩⟩ ?_
    exact f_X1_readTest_35_ok hs hR_X1_readSum _ _ _ _ h5 Q hw
set_option maxHeartbeats 4000000 in
set_option maxRecDepth 100000 in
theorem f_X1_readSum_44_ok {Γ : GX} (hs : SF Γ) {d : Nat} {R_X1_readProduct : Nat → Nat → Int32 → PH → Option (Unit × PH)} (hR_X1_readProduct : ∀ (z0 : Nat) (z1 : Nat) (z2 : Int32) (h : PH) (Q : Unit → PH → Prop), wp (R_X1_readProduct z0 z1 z2 h) Q → Spec Γ yX1_readProduct cX1_readProduct 4 none (6 + d, 0, 0) [.ref z0, .ref z1, .int z2] h (q_u Q)) {N : Nat} {K_8 : Nat → Nat → Int32 → Int32 → PH → Option (Unit × PH)} (hK_8 : ∀ (l0 : Nat) (l1 : Nat) (l2 : Int32) (l3 : Int32) (h : PH) (Q : Unit → PH → Prop), wp (K_8 l0 l1 l2 l3 h) Q → G Γ yX1_readSum cX1_readSum 5 none (6 + (d + 1), 0, 0) 8 [some (.ref l0), some (.ref l1), some (.int l2), some (.int l3), none] [] h (0, 0) (q_u Q)) (s0 : Int32) (l0 : Nat) (l1 : Nat) (l2 : Int32) (l3 : Int32) (h : PH) (Q : Unit → PH → Prop) (hw : wp (f_X1_readSum_44 R_X1_readProduct N K_8 s0 l0 l1 l2 l3 h) Q) : G Γ yX1_readSum cX1_readSum 5 none (6 + (d + 1), 0, 0) 44 [some (.ref l0), some (.ref l1), some (.int l2), some (.int l3), none] [.int s0] h (0, 0) (q_u Q) := by
  unfold f_X1_readSum_44 at hw
  refine G_istore (lv' := [some (.ref l0), some (.ref l1), some (.int l2), some (.int l3), some (.int s0)]) dX1_readSum_44 (Nat.le_of_ble_eq_true rfl) rfl ?_
  refine G_iload dX1_readSum_46 rfl ?_
  have hw := wp_if hw
  refine G_if_ne (tgt := 52) dX1_readSum_48 rfl (fun c1 => ?_) (fun c1 => ?_)
  · have hw := hw.2 c1
    refine G_aload_n dX1_readSum_52 rfl ?_
    obtain ⟨c4, hw⟩ := wp_ck hw
    refine G_callV (As := []) (s_X5_step hs l1 h _ (wp_cl hw)) ca_X5_step w_586 w_587 (ci := 5) rfl (by decide) w_884 c4 (by show 5 + 1 ≤ 6 + (d + 1); omega) (Nat.le_of_ble_eq_true rfl) rfl (Nat.le_of_ble_eq_true rfl) (Nat.le_of_ble_eq_true rfl) (Nat.le_of_ble_eq_true rfl) dX1_readSum_53 rfl (fun v h3 hq => ?_)
    obtain ⟨rfl, hw⟩ := hq
    refine G.cse (cs' := (0, 0)) rfl ?_
    show GZ _ _ _ _ _ _ _ 56 _ [] _ _
    refine G_aload_n dX1_readSum_56 rfl ?_
    refine G_aload_n dX1_readSum_57 rfl ?_
    refine G_iload_n dX1_readSum_58 rfl ?_
    obtain ⟨c7, hw⟩ := wp_ck hw
    refine G_callV (As := [.ref l1, .int l2]) (hR_X1_readProduct l0 l1 l2 h3 _ (wp_cl hw)) ca_X1_readProduct w_858 w_17 (ci := 1) rfl (by decide) w_856 c7 (Nat.le_refl _) (Nat.le_of_ble_eq_true rfl) rfl (Nat.le_of_ble_eq_true rfl) (Nat.le_of_ble_eq_true rfl) (Nat.le_of_ble_eq_true rfl) dX1_readSum_59 rfl (fun v h6 hq => ?_)
    obtain ⟨rfl, hw⟩ := hq
    refine G.cse (cs' := (0, 0)) rfl ?_
    show GZ _ _ _ _ _ _ _ 62 _ [] _ _
    refine G_aload_n dX1_readSum_62 rfl ?_
    refine G_iload dX1_readSum_63 rfl ?_
    obtain ⟨c10, hw⟩ := wp_ck hw
    refine G_callV (As := [.int s0]) (s_X1_put hs l0 s0 h6 _ (wp_cl hw)) ca_X1_put w_887 w_20 (ci := 1) rfl (by decide) w_885 c10 (by show 1 + 1 ≤ 6 + (d + 1); omega) (Nat.le_of_ble_eq_true rfl) rfl (Nat.le_of_ble_eq_true rfl) (Nat.le_of_ble_eq_true rfl) (Nat.le_of_ble_eq_true rfl) dX1_readSum_65 rfl (fun v h9 hq => ?_)
    obtain ⟨rfl, hw⟩ := hq
    refine G.cse (cs' := (0, 0)) rfl ?_
    show GZ _ _ _ _ _ _ _ 68 _ [] _ _
    obtain ⟨v11, ev11⟩ : ∃ z : Int32, z = l3 + (1 : Int32) := ⟨_, rfl⟩
    have hw := wp_bd hw v11 ev11
    refine G_iinc (v := v11) (lv' := [some (.ref l0), some (.ref l1), some (.int l2), some (.int v11), some (.int s0)]) dX1_readSum_68 rfl (by rw [ev11]; rfl) (Nat.le_of_ble_eq_true rfl) rfl ?_
    refine G_goto (tgt := 8) dX1_readSum_71 rfl ?_
    refine G.less [some (.ref l0), some (.ref l1), some (.int l2), some (.int v11), none] ⟨rfl, ⟨rfl, ⟨rfl, ⟨rfl, trivial⟩⟩⟩⟩ ?_
    exact hK_8 _ _ _ _ h9 Q hw
  · have hw := hw.1 c1
    exact G_vreturn rfl dX1_readSum_51 ⟨rfl, wp_ret hw⟩
set_option maxHeartbeats 4000000 in
set_option maxRecDepth 100000 in
theorem f_X1_readSum_8_bok {Γ : GX} (hs : SF Γ) {d : Nat} {R_X1_readProduct : Nat → Nat → Int32 → PH → Option (Unit × PH)} (hR_X1_readProduct : ∀ (z0 : Nat) (z1 : Nat) (z2 : Int32) (h : PH) (Q : Unit → PH → Prop), wp (R_X1_readProduct z0 z1 z2 h) Q → Spec Γ yX1_readProduct cX1_readProduct 4 none (6 + d, 0, 0) [.ref z0, .ref z1, .int z2] h (q_u Q)) {N : Nat} {K_8 : Nat → Nat → Int32 → Int32 → PH → Option (Unit × PH)} (hK_8 : ∀ (l0 : Nat) (l1 : Nat) (l2 : Int32) (l3 : Int32) (h : PH) (Q : Unit → PH → Prop), wp (K_8 l0 l1 l2 l3 h) Q → G Γ yX1_readSum cX1_readSum 5 none (6 + (d + 1), 0, 0) 8 [some (.ref l0), some (.ref l1), some (.int l2), some (.int l3), none] [] h (0, 0) (q_u Q)) (l0 : Nat) (l1 : Nat) (l2 : Int32) (l3 : Int32) (h : PH) (Q : Unit → PH → Prop) (hw : wp (f_X1_readSum_8_b R_X1_readProduct N K_8 l0 l1 l2 l3 h) Q) : G Γ yX1_readSum cX1_readSum 5 none (6 + (d + 1), 0, 0) 8 [some (.ref l0), some (.ref l1), some (.int l2), some (.int l3), none] [] h (0, 0) (q_u Q) := by
  unfold f_X1_readSum_8_b at hw
  refine G_iload_n dX1_readSum_8 rfl ?_
  refine G_sipush (v := (1000 : Int32)) dX1_readSum_9 (by decide) ?_
  have hw := wp_if hw
  refine G_icmp_ge (tgt := 74) dX1_readSum_12 rfl (fun c1 => ?_) (fun c1 => ?_)
  · have hw := hw.1 c1
    exact G_vreturn rfl dX1_readSum_74 ⟨rfl, wp_ret hw⟩
  · have hw := hw.2 c1
    refine G_aload_n dX1_readSum_15 rfl ?_
    refine G_bipush (v := (43 : Int32)) dX1_readSum_16 (by decide) ?_
    obtain ⟨c4, hw⟩ := wp_ck hw
    refine G_callV (As := [.int (43 : Int32)]) (s_X5_isAtSign hs l1 (43 : Int32) h _ (wp_cl hw)) ca_X5_isAtSign w_760 w_761 (ci := 5) rfl (by decide) w_881 c4 (by show 1 + 1 ≤ 6 + (d + 1); omega) (Nat.le_of_ble_eq_true rfl) rfl (Nat.le_of_ble_eq_true rfl) (Nat.le_of_ble_eq_true rfl) (Nat.le_of_ble_eq_true rfl) dX1_readSum_18 rfl (fun v h3 hq => ?_)
    obtain ⟨r2, rfl, hw⟩ := hq
    refine G.cse (cs' := (0, 0)) rfl ?_
    show GZ _ _ _ _ _ _ _ 21 _ (.int r2 :: []) _ _
    have hw := wp_if hw
    refine G_if_eq (tgt := 29) dX1_readSum_21 rfl (fun c5 => ?_) (fun c5 => ?_)
    · have hw := hw.1 c5
      refine G_aload_n dX1_readSum_29 rfl ?_
      refine G_bipush (v := (45 : Int32)) dX1_readSum_30 (by decide) ?_
      obtain ⟨c8, hw⟩ := wp_ck hw
      refine G_callV (As := [.int (45 : Int32)]) (s_X5_isAtSign hs l1 (45 : Int32) h3 _ (wp_cl hw)) ca_X5_isAtSign w_760 w_761 (ci := 5) rfl (by decide) w_881 c8 (by show 1 + 1 ≤ 6 + (d + 1); omega) (Nat.le_of_ble_eq_true rfl) rfl (Nat.le_of_ble_eq_true rfl) (Nat.le_of_ble_eq_true rfl) (Nat.le_of_ble_eq_true rfl) dX1_readSum_32 rfl (fun v h7 hq => ?_)
      obtain ⟨r6, rfl, hw⟩ := hq
      refine G.cse (cs' := (0, 0)) rfl ?_
      show GZ _ _ _ _ _ _ _ 35 _ (.int r6 :: []) _ _
      have hw := wp_if hw
      refine G_if_eq (tgt := 43) dX1_readSum_35 rfl (fun c9 => ?_) (fun c9 => ?_)
      · have hw := hw.1 c9
        refine G_iconst (v := (0 : Int32)) dX1_readSum_43 (by decide) ?_
        refine G.less [some (.ref l0), some (.ref l1), some (.int l2), some (.int l3), none] ⟨rfl, ⟨rfl, ⟨rfl, ⟨rfl, trivial⟩⟩⟩⟩ ?_
        exact f_X1_readSum_44_ok hs hR_X1_readProduct hK_8 _ _ _ _ _ h7 Q hw
      · have hw := hw.2 c9
        refine G_bipush (v := (-12 : Int32)) dX1_readSum_38 (by decide) ?_
        refine G_goto (tgt := 44) dX1_readSum_40 rfl ?_
        refine G.less [some (.ref l0), some (.ref l1), some (.int l2), some (.int l3), none] ⟨rfl, ⟨rfl, ⟨rfl, ⟨rfl, trivial⟩⟩⟩⟩ ?_
        exact f_X1_readSum_44_ok hs hR_X1_readProduct hK_8 _ _ _ _ _ h7 Q hw
    · have hw := hw.2 c5
      refine G_bipush (v := (-11 : Int32)) dX1_readSum_24 (by decide) ?_
      refine G_goto (tgt := 44) dX1_readSum_26 rfl ?_
      refine G.less [some (.ref l0), some (.ref l1), some (.int l2), some (.int l3), none] ⟨rfl, ⟨rfl, ⟨rfl, ⟨rfl, trivial⟩⟩⟩⟩ ?_
      exact f_X1_readSum_44_ok hs hR_X1_readProduct hK_8 _ _ _ _ _ h3 Q hw
theorem f_X1_readSum_8_ok {Γ : GX} (hs : SF Γ) {d : Nat} {R_X1_readProduct : Nat → Nat → Int32 → PH → Option (Unit × PH)} (hR_X1_readProduct : ∀ (z0 : Nat) (z1 : Nat) (z2 : Int32) (h : PH) (Q : Unit → PH → Prop), wp (R_X1_readProduct z0 z1 z2 h) Q → Spec Γ yX1_readProduct cX1_readProduct 4 none (6 + d, 0, 0) [.ref z0, .ref z1, .int z2] h (q_u Q)) {N : Nat} : ∀ (n : Nat) (l0 : Nat) (l1 : Nat) (l2 : Int32) (l3 : Int32) (h : PH) (Q : Unit → PH → Prop), wp (f_X1_readSum_8 R_X1_readProduct N n l0 l1 l2 l3 h) Q → G Γ yX1_readSum cX1_readSum 5 none (6 + (d + 1), 0, 0) 8 [some (.ref l0), some (.ref l1), some (.int l2), some (.int l3), none] [] h (0, 0) (q_u Q)
  | 0, _, _, _, _, _, Q, hw => (wp_no hw).elim
  | n + 1, l0, l1, l2, l3, h, Q, hw => f_X1_readSum_8_bok (N := N) hs hR_X1_readProduct (f_X1_readSum_8_ok (N := N) hs hR_X1_readProduct n) l0 l1 l2 l3 h Q hw
set_option maxHeartbeats 4000000 in
set_option maxRecDepth 100000 in
theorem s_X1_readSum_b {Γ : GX} (hs : SF Γ) {d : Nat} {R_X1_readProduct : Nat → Nat → Int32 → PH → Option (Unit × PH)} (hR_X1_readProduct : ∀ (z0 : Nat) (z1 : Nat) (z2 : Int32) (h : PH) (Q : Unit → PH → Prop), wp (R_X1_readProduct z0 z1 z2 h) Q → Spec Γ yX1_readProduct cX1_readProduct 4 none (6 + d, 0, 0) [.ref z0, .ref z1, .int z2] h (q_u Q)) {N : Nat} (l0 : Nat) (l1 : Nat) (l2 : Int32) (h : PH) (Q : Unit → PH → Prop) (hw : wp (f_X1_readSum_b R_X1_readProduct N l0 l1 l2 h) Q) : Spec Γ yX1_readSum cX1_readSum 5 none (6 + (d + 1), 0, 0) [.ref l0, .ref l1, .int l2] h (q_u Q) := by
  refine Spec.of (by decide) (Nat.le_of_ble_eq_true rfl) [some (.ref l0), some (.ref l1), some (.int l2), none, none] rfl ?_
  unfold f_X1_readSum_b at hw
  refine G_aload_n dX1_readSum_0 rfl ?_
  refine G_aload_n dX1_readSum_1 rfl ?_
  refine G_iload_n dX1_readSum_2 rfl ?_
  obtain ⟨c3, hw⟩ := wp_ck hw
  refine G_callV (As := [.ref l1, .int l2]) (hR_X1_readProduct l0 l1 l2 h _ (wp_cl hw)) ca_X1_readProduct w_858 w_17 (ci := 1) rfl (by decide) w_856 c3 (Nat.le_refl _) (Nat.le_of_ble_eq_true rfl) rfl (Nat.le_of_ble_eq_true rfl) (Nat.le_of_ble_eq_true rfl) (Nat.le_of_ble_eq_true rfl) dX1_readSum_3 rfl (fun v h2 hq => ?_)
  obtain ⟨rfl, hw⟩ := hq
  refine G.cse (cs' := (0, 0)) rfl ?_
  show GZ _ _ _ _ _ _ _ 6 _ [] _ _
  refine G_iconst (v := (0 : Int32)) dX1_readSum_6 (by decide) ?_
  refine G_istore_n (lv' := [some (.ref l0), some (.ref l1), some (.int l2), some (.int (0 : Int32)), none]) dX1_readSum_7 (Nat.le_of_ble_eq_true rfl) rfl ?_
  refine G.less [some (.ref l0), some (.ref l1), some (.int l2), some (.int (0 : Int32)), none] ⟨rfl, ⟨rfl, ⟨rfl, ⟨rfl, trivial⟩⟩⟩⟩ ?_
  exact f_X1_readSum_8_ok hs hR_X1_readProduct N _ _ _ _ h2 Q hw
set_option maxHeartbeats 4000000 in
set_option maxRecDepth 100000 in
theorem f_X1_readProduct_8_bok {Γ : GX} (hs : SF Γ) {d : Nat} {R_X1_readPart : Nat → Nat → Int32 → PH → Option (Unit × PH)} (hR_X1_readPart : ∀ (z0 : Nat) (z1 : Nat) (z2 : Int32) (h : PH) (Q : Unit → PH → Prop), wp (R_X1_readPart z0 z1 z2 h) Q → Spec Γ yX1_readPart cX1_readPart 6 none (6 + d, 0, 0) [.ref z0, .ref z1, .int z2] h (q_u Q)) {N : Nat} {K_8 : Nat → Nat → Int32 → Int32 → PH → Option (Unit × PH)} (hK_8 : ∀ (l0 : Nat) (l1 : Nat) (l2 : Int32) (l3 : Int32) (h : PH) (Q : Unit → PH → Prop), wp (K_8 l0 l1 l2 l3 h) Q → G Γ yX1_readProduct cX1_readProduct 4 none (6 + (d + 1), 0, 0) 8 [some (.ref l0), some (.ref l1), some (.int l2), some (.int l3)] [] h (0, 0) (q_u Q)) (l0 : Nat) (l1 : Nat) (l2 : Int32) (l3 : Int32) (h : PH) (Q : Unit → PH → Prop) (hw : wp (f_X1_readProduct_8_b R_X1_readPart N K_8 l0 l1 l2 l3 h) Q) : G Γ yX1_readProduct cX1_readProduct 4 none (6 + (d + 1), 0, 0) 8 [some (.ref l0), some (.ref l1), some (.int l2), some (.int l3)] [] h (0, 0) (q_u Q) := by
  unfold f_X1_readProduct_8_b at hw
  refine G_iload_n dX1_readProduct_8 rfl ?_
  refine G_sipush (v := (1000 : Int32)) dX1_readProduct_9 (by decide) ?_
  have hw := wp_if hw
  refine G_icmp_ge (tgt := 46) dX1_readProduct_12 rfl (fun c1 => ?_) (fun c1 => ?_)
  · have hw := hw.1 c1
    exact G_vreturn rfl dX1_readProduct_46 ⟨rfl, wp_ret hw⟩
  · have hw := hw.2 c1
    refine G_aload_n dX1_readProduct_15 rfl ?_
    refine G_bipush (v := (42 : Int32)) dX1_readProduct_16 (by decide) ?_
    obtain ⟨c4, hw⟩ := wp_ck hw
    refine G_callV (As := [.int (42 : Int32)]) (s_X5_isAtSign hs l1 (42 : Int32) h _ (wp_cl hw)) ca_X5_isAtSign w_760 w_761 (ci := 5) rfl (by decide) w_881 c4 (by show 1 + 1 ≤ 6 + (d + 1); omega) (Nat.le_of_ble_eq_true rfl) rfl (Nat.le_of_ble_eq_true rfl) (Nat.le_of_ble_eq_true rfl) (Nat.le_of_ble_eq_true rfl) dX1_readProduct_18 rfl (fun v h3 hq => ?_)
    obtain ⟨r2, rfl, hw⟩ := hq
    refine G.cse (cs' := (0, 0)) rfl ?_
    show GZ _ _ _ _ _ _ _ 21 _ (.int r2 :: []) _ _
    have hw := wp_if hw
    refine G_if_eq (tgt := 46) dX1_readProduct_21 rfl (fun c5 => ?_) (fun c5 => ?_)
    · have hw := hw.1 c5
      exact G_vreturn rfl dX1_readProduct_46 ⟨rfl, wp_ret hw⟩
    · have hw := hw.2 c5
      refine G_aload_n dX1_readProduct_24 rfl ?_
      obtain ⟨c8, hw⟩ := wp_ck hw
      refine G_callV (As := []) (s_X5_step hs l1 h3 _ (wp_cl hw)) ca_X5_step w_586 w_587 (ci := 5) rfl (by decide) w_884 c8 (by show 5 + 1 ≤ 6 + (d + 1); omega) (Nat.le_of_ble_eq_true rfl) rfl (Nat.le_of_ble_eq_true rfl) (Nat.le_of_ble_eq_true rfl) (Nat.le_of_ble_eq_true rfl) dX1_readProduct_25 rfl (fun v h7 hq => ?_)
      obtain ⟨rfl, hw⟩ := hq
      refine G.cse (cs' := (0, 0)) rfl ?_
      show GZ _ _ _ _ _ _ _ 28 _ [] _ _
      refine G_aload_n dX1_readProduct_28 rfl ?_
      refine G_aload_n dX1_readProduct_29 rfl ?_
      refine G_iload_n dX1_readProduct_30 rfl ?_
      obtain ⟨c11, hw⟩ := wp_ck hw
      refine G_callV (As := [.ref l1, .int l2]) (hR_X1_readPart l0 l1 l2 h7 _ (wp_cl hw)) ca_X1_readPart w_862 w_18 (ci := 1) rfl (by decide) w_860 c11 (Nat.le_refl _) (Nat.le_of_ble_eq_true rfl) rfl (Nat.le_of_ble_eq_true rfl) (Nat.le_of_ble_eq_true rfl) (Nat.le_of_ble_eq_true rfl) dX1_readProduct_31 rfl (fun v h10 hq => ?_)
      obtain ⟨rfl, hw⟩ := hq
      refine G.cse (cs' := (0, 0)) rfl ?_
      show GZ _ _ _ _ _ _ _ 34 _ [] _ _
      refine G_aload_n dX1_readProduct_34 rfl ?_
      refine G_bipush (v := (-13 : Int32)) dX1_readProduct_35 (by decide) ?_
      obtain ⟨c14, hw⟩ := wp_ck hw
      refine G_callV (As := [.int (-13 : Int32)]) (s_X1_put hs l0 (-13 : Int32) h10 _ (wp_cl hw)) ca_X1_put w_887 w_20 (ci := 1) rfl (by decide) w_885 c14 (by show 1 + 1 ≤ 6 + (d + 1); omega) (Nat.le_of_ble_eq_true rfl) rfl (Nat.le_of_ble_eq_true rfl) (Nat.le_of_ble_eq_true rfl) (Nat.le_of_ble_eq_true rfl) dX1_readProduct_37 rfl (fun v h13 hq => ?_)
      obtain ⟨rfl, hw⟩ := hq
      refine G.cse (cs' := (0, 0)) rfl ?_
      show GZ _ _ _ _ _ _ _ 40 _ [] _ _
      obtain ⟨v15, ev15⟩ : ∃ z : Int32, z = l3 + (1 : Int32) := ⟨_, rfl⟩
      have hw := wp_bd hw v15 ev15
      refine G_iinc (v := v15) (lv' := [some (.ref l0), some (.ref l1), some (.int l2), some (.int v15)]) dX1_readProduct_40 rfl (by rw [ev15]; rfl) (Nat.le_of_ble_eq_true rfl) rfl ?_
      refine G_goto (tgt := 8) dX1_readProduct_43 rfl ?_
      refine G.less [some (.ref l0), some (.ref l1), some (.int l2), some (.int v15)] ⟨rfl, ⟨rfl, ⟨rfl, ⟨rfl, trivial⟩⟩⟩⟩ ?_
      exact hK_8 _ _ _ _ h13 Q hw
theorem f_X1_readProduct_8_ok {Γ : GX} (hs : SF Γ) {d : Nat} {R_X1_readPart : Nat → Nat → Int32 → PH → Option (Unit × PH)} (hR_X1_readPart : ∀ (z0 : Nat) (z1 : Nat) (z2 : Int32) (h : PH) (Q : Unit → PH → Prop), wp (R_X1_readPart z0 z1 z2 h) Q → Spec Γ yX1_readPart cX1_readPart 6 none (6 + d, 0, 0) [.ref z0, .ref z1, .int z2] h (q_u Q)) {N : Nat} : ∀ (n : Nat) (l0 : Nat) (l1 : Nat) (l2 : Int32) (l3 : Int32) (h : PH) (Q : Unit → PH → Prop), wp (f_X1_readProduct_8 R_X1_readPart N n l0 l1 l2 l3 h) Q → G Γ yX1_readProduct cX1_readProduct 4 none (6 + (d + 1), 0, 0) 8 [some (.ref l0), some (.ref l1), some (.int l2), some (.int l3)] [] h (0, 0) (q_u Q)
  | 0, _, _, _, _, _, Q, hw => (wp_no hw).elim
  | n + 1, l0, l1, l2, l3, h, Q, hw => f_X1_readProduct_8_bok (N := N) hs hR_X1_readPart (f_X1_readProduct_8_ok (N := N) hs hR_X1_readPart n) l0 l1 l2 l3 h Q hw
set_option maxHeartbeats 4000000 in
set_option maxRecDepth 100000 in
theorem s_X1_readProduct_b {Γ : GX} (hs : SF Γ) {d : Nat} {R_X1_readPart : Nat → Nat → Int32 → PH → Option (Unit × PH)} (hR_X1_readPart : ∀ (z0 : Nat) (z1 : Nat) (z2 : Int32) (h : PH) (Q : Unit → PH → Prop), wp (R_X1_readPart z0 z1 z2 h) Q → Spec Γ yX1_readPart cX1_readPart 6 none (6 + d, 0, 0) [.ref z0, .ref z1, .int z2] h (q_u Q)) {N : Nat} (l0 : Nat) (l1 : Nat) (l2 : Int32) (h : PH) (Q : Unit → PH → Prop) (hw : wp (f_X1_readProduct_b R_X1_readPart N l0 l1 l2 h) Q) : Spec Γ yX1_readProduct cX1_readProduct 4 none (6 + (d + 1), 0, 0) [.ref l0, .ref l1, .int l2] h (q_u Q) := by
  refine Spec.of (by decide) (Nat.le_of_ble_eq_true rfl) [some (.ref l0), some (.ref l1), some (.int l2), none] rfl ?_
  unfold f_X1_readProduct_b at hw
  refine G_aload_n dX1_readProduct_0 rfl ?_
  refine G_aload_n dX1_readProduct_1 rfl ?_
  refine G_iload_n dX1_readProduct_2 rfl ?_
  obtain ⟨c3, hw⟩ := wp_ck hw
  refine G_callV (As := [.ref l1, .int l2]) (hR_X1_readPart l0 l1 l2 h _ (wp_cl hw)) ca_X1_readPart w_862 w_18 (ci := 1) rfl (by decide) w_860 c3 (Nat.le_refl _) (Nat.le_of_ble_eq_true rfl) rfl (Nat.le_of_ble_eq_true rfl) (Nat.le_of_ble_eq_true rfl) (Nat.le_of_ble_eq_true rfl) dX1_readProduct_3 rfl (fun v h2 hq => ?_)
  obtain ⟨rfl, hw⟩ := hq
  refine G.cse (cs' := (0, 0)) rfl ?_
  show GZ _ _ _ _ _ _ _ 6 _ [] _ _
  refine G_iconst (v := (0 : Int32)) dX1_readProduct_6 (by decide) ?_
  refine G_istore_n (lv' := [some (.ref l0), some (.ref l1), some (.int l2), some (.int (0 : Int32))]) dX1_readProduct_7 (Nat.le_of_ble_eq_true rfl) rfl ?_
  refine G.less [some (.ref l0), some (.ref l1), some (.int l2), some (.int (0 : Int32))] ⟨rfl, ⟨rfl, ⟨rfl, ⟨rfl, trivial⟩⟩⟩⟩ ?_
  exact f_X1_readProduct_8_ok hs hR_X1_readPart N _ _ _ _ h2 Q hw
set_option maxHeartbeats 4000000 in
set_option maxRecDepth 100000 in
theorem f_X1_readPart_122_ok {Γ : GX} (hs : SF Γ) {d : Nat} {R_X1_readPart : Nat → Nat → Int32 → PH → Option (Unit × PH)} {R_X1_readTests : Nat → Nat → Int32 → PH → Option (Unit × PH)} (hR_X1_readPart : ∀ (z0 : Nat) (z1 : Nat) (z2 : Int32) (h : PH) (Q : Unit → PH → Prop), wp (R_X1_readPart z0 z1 z2 h) Q → Spec Γ yX1_readPart cX1_readPart 6 none (6 + d, 0, 0) [.ref z0, .ref z1, .int z2] h (q_u Q)) (hR_X1_readTests : ∀ (z0 : Nat) (z1 : Nat) (z2 : Int32) (h : PH) (Q : Unit → PH → Prop), wp (R_X1_readTests z0 z1 z2 h) Q → Spec Γ yX1_readTests cX1_readTests 5 none (6 + d, 0, 0) [.ref z0, .ref z1, .int z2] h (q_u Q)) {N : Nat} (l1 : Nat) (h : PH) (Q : Unit → PH → Prop) (hw : wp (f_X1_readPart_122 R_X1_readPart R_X1_readTests N l1 h) Q) : G Γ yX1_readPart cX1_readPart 6 none (6 + (d + 1), 0, 0) 122 [none, some (.ref l1), none, none, none, none] [] h (0, 0) (q_u Q) := by
  unfold f_X1_readPart_122 at hw
  refine G_aload_n dX1_readPart_122 rfl ?_
  obtain ⟨c3, hw⟩ := wp_ck hw
  refine G_callV (As := []) (s_X5_step hs l1 h _ (wp_cl hw)) ca_X5_step w_586 w_587 (ci := 5) rfl (by decide) w_884 c3 (by show 5 + 1 ≤ 6 + (d + 1); omega) (Nat.le_of_ble_eq_true rfl) rfl (Nat.le_of_ble_eq_true rfl) (Nat.le_of_ble_eq_true rfl) (Nat.le_of_ble_eq_true rfl) dX1_readPart_123 rfl (fun v h2 hq => ?_)
  obtain ⟨rfl, hw⟩ := hq
  refine G.cse (cs' := (0, 0)) rfl ?_
  show GZ _ _ _ _ _ _ _ 126 _ [] _ _
  refine G_goto (tgt := 149) dX1_readPart_126 rfl ?_
  exact G_vreturn rfl dX1_readPart_149 ⟨rfl, wp_ret hw⟩
set_option maxHeartbeats 4000000 in
set_option maxRecDepth 100000 in
theorem f_X1_readPart_142_ok {Γ : GX} (hs : SF Γ) {d : Nat} {R_X1_readPart : Nat → Nat → Int32 → PH → Option (Unit × PH)} {R_X1_readTests : Nat → Nat → Int32 → PH → Option (Unit × PH)} (hR_X1_readPart : ∀ (z0 : Nat) (z1 : Nat) (z2 : Int32) (h : PH) (Q : Unit → PH → Prop), wp (R_X1_readPart z0 z1 z2 h) Q → Spec Γ yX1_readPart cX1_readPart 6 none (6 + d, 0, 0) [.ref z0, .ref z1, .int z2] h (q_u Q)) (hR_X1_readTests : ∀ (z0 : Nat) (z1 : Nat) (z2 : Int32) (h : PH) (Q : Unit → PH → Prop), wp (R_X1_readTests z0 z1 z2 h) Q → Spec Γ yX1_readTests cX1_readTests 5 none (6 + d, 0, 0) [.ref z0, .ref z1, .int z2] h (q_u Q)) {N : Nat} (s0 : Int32) (s1 : Nat) (l1 : Nat) (h : PH) (Q : Unit → PH → Prop) (hw : wp (f_X1_readPart_142 R_X1_readPart R_X1_readTests N s0 s1 l1 h) Q) : G Γ yX1_readPart cX1_readPart 6 none (6 + (d + 1), 0, 0) 142 [none, some (.ref l1), none, none, none, none] [.int s0, .ref s1] h (0, 0) (q_u Q) := by
  unfold f_X1_readPart_142 at hw
  obtain ⟨c3, hw⟩ := wp_ck hw
  refine G_callV (As := [.int s0]) (s_X1_put hs s1 s0 h _ (wp_cl hw)) ca_X1_put w_887 w_20 (ci := 1) rfl (by decide) w_885 c3 (by show 1 + 1 ≤ 6 + (d + 1); omega) (Nat.le_of_ble_eq_true rfl) rfl (Nat.le_of_ble_eq_true rfl) (Nat.le_of_ble_eq_true rfl) (Nat.le_of_ble_eq_true rfl) dX1_readPart_142 rfl (fun v h2 hq => ?_)
  obtain ⟨rfl, hw⟩ := hq
  refine G.cse (cs' := (0, 0)) rfl ?_
  show GZ _ _ _ _ _ _ _ 145 _ [] _ _
  refine G_aload_n dX1_readPart_145 rfl ?_
  obtain ⟨c6, hw⟩ := wp_ck hw
  refine G_callV (As := []) (s_X5_step hs l1 h2 _ (wp_cl hw)) ca_X5_step w_586 w_587 (ci := 5) rfl (by decide) w_884 c6 (by show 5 + 1 ≤ 6 + (d + 1); omega) (Nat.le_of_ble_eq_true rfl) rfl (Nat.le_of_ble_eq_true rfl) (Nat.le_of_ble_eq_true rfl) (Nat.le_of_ble_eq_true rfl) dX1_readPart_146 rfl (fun v h5 hq => ?_)
  obtain ⟨rfl, hw⟩ := hq
  refine G.cse (cs' := (0, 0)) rfl ?_
  show GZ _ _ _ _ _ _ _ 149 _ [] _ _
  exact G_vreturn rfl dX1_readPart_149 ⟨rfl, wp_ret hw⟩
set_option maxHeartbeats 4000000 in
set_option maxRecDepth 100000 in
theorem f_X1_readPart_52_ok {Γ : GX} (hs : SF Γ) {d : Nat} {R_X1_readPart : Nat → Nat → Int32 → PH → Option (Unit × PH)} {R_X1_readTests : Nat → Nat → Int32 → PH → Option (Unit × PH)} (hR_X1_readPart : ∀ (z0 : Nat) (z1 : Nat) (z2 : Int32) (h : PH) (Q : Unit → PH → Prop), wp (R_X1_readPart z0 z1 z2 h) Q → Spec Γ yX1_readPart cX1_readPart 6 none (6 + d, 0, 0) [.ref z0, .ref z1, .int z2] h (q_u Q)) (hR_X1_readTests : ∀ (z0 : Nat) (z1 : Nat) (z2 : Int32) (h : PH) (Q : Unit → PH → Prop), wp (R_X1_readTests z0 z1 z2 h) Q → Spec Γ yX1_readTests cX1_readTests 5 none (6 + d, 0, 0) [.ref z0, .ref z1, .int z2] h (q_u Q)) {N : Nat} (l0 : Nat) (l1 : Nat) (l2 : Int32) (l3 : Int32) (l4 : Int32) (l5 : Int32) (h : PH) (Q : Unit → PH → Prop) (hw : wp (f_X1_readPart_52 R_X1_readPart R_X1_readTests N l0 l1 l2 l3 l4 l5 h) Q) : G Γ yX1_readPart cX1_readPart 6 none (6 + (d + 1), 0, 0) 52 [some (.ref l0), some (.ref l1), some (.int l2), some (.int l3), some (.int l4), some (.int l5)] [] h (0, 0) (q_u Q) := by
  unfold f_X1_readPart_52 at hw
  refine G_iload_n dX1_readPart_52 rfl ?_
  refine G_iconst (v := (5 : Int32)) dX1_readPart_53 (by decide) ?_
  have hw := wp_if hw
  refine G_icmp_lt (tgt := 65) dX1_readPart_54 rfl (fun c1 => ?_) (fun c1 => ?_)
  · have hw := hw.1 c1
    refine G_iload dX1_readPart_65 rfl ?_
    have hw := wp_if hw
    refine G_if_eq (tgt := 91) dX1_readPart_67 rfl (fun c2 => ?_) (fun c2 => ?_)
    · have hw := hw.1 c2
      refine G_iload dX1_readPart_91 rfl ?_
      have hw := wp_if hw
      refine G_if_eq (tgt := 129) dX1_readPart_93 rfl (fun c3 => ?_) (fun c3 => ?_)
      · have hw := hw.1 c3
        refine G_aload_n dX1_readPart_129 rfl ?_
        refine G_iload_n dX1_readPart_130 rfl ?_
        have hw := wp_if hw
        refine G_if_eq (tgt := 138) dX1_readPart_131 rfl (fun c4 => ?_) (fun c4 => ?_)
        · have hw := hw.1 c4
          refine G_aload_n dX1_readPart_138 rfl ?_
          obtain ⟨c5, hw⟩ := wp_ck hw
          refine G_getNI fl_X5_number w_174 dX1_readPart_139 c5 ?_
          refine G.less [none, some (.ref l1), none, none, none, none] ⟨rfl, trivial⟩ ?_
          exact f_X1_readPart_142_ok hs hR_X1_readPart hR_X1_readTests _ _ _ h Q hw
        · have hw := hw.2 c4
          refine G_iload_n dX1_readPart_134 rfl ?_
          refine G_goto (tgt := 142) dX1_readPart_135 rfl ?_
          refine G.less [none, some (.ref l1), none, none, none, none] ⟨rfl, trivial⟩ ?_
          exact f_X1_readPart_142_ok hs hR_X1_readPart hR_X1_readTests _ _ _ h Q hw
      · have hw := hw.2 c3
        refine G_aload_n dX1_readPart_96 rfl ?_
        obtain ⟨c8, hw⟩ := wp_ck hw
        refine G_callV (As := []) (s_X5_step hs l1 h _ (wp_cl hw)) ca_X5_step w_586 w_587 (ci := 5) rfl (by decide) w_884 c8 (by show 5 + 1 ≤ 6 + (d + 1); omega) (Nat.le_of_ble_eq_true rfl) rfl (Nat.le_of_ble_eq_true rfl) (Nat.le_of_ble_eq_true rfl) (Nat.le_of_ble_eq_true rfl) dX1_readPart_97 rfl (fun v h7 hq => ?_)
        obtain ⟨rfl, hw⟩ := hq
        refine G.cse (cs' := (0, 0)) rfl ?_
        show GZ _ _ _ _ _ _ _ 100 _ [] _ _
        refine G_aload_n dX1_readPart_100 rfl ?_
        refine G_aload_n dX1_readPart_101 rfl ?_
        refine G_iload_n dX1_readPart_102 rfl ?_
        refine G_iconst (v := (1 : Int32)) dX1_readPart_103 (by decide) ?_
        refine G_iadd dX1_readPart_104 ?_
        obtain ⟨c11, hw⟩ := wp_ck hw
        refine G_callV (As := [.ref l1, .int (l2 + (1 : Int32))]) (hR_X1_readTests l0 l1 (l2 + (1 : Int32)) h7 _ (wp_cl hw)) ca_X1_readTests w_846 w_14 (ci := 1) rfl (by decide) w_844 c11 (Nat.le_refl _) (Nat.le_of_ble_eq_true rfl) rfl (Nat.le_of_ble_eq_true rfl) (Nat.le_of_ble_eq_true rfl) (Nat.le_of_ble_eq_true rfl) dX1_readPart_105 rfl (fun v h10 hq => ?_)
        obtain ⟨rfl, hw⟩ := hq
        refine G.cse (cs' := (0, 0)) rfl ?_
        show GZ _ _ _ _ _ _ _ 108 _ [] _ _
        refine G_aload_n dX1_readPart_108 rfl ?_
        refine G_bipush (v := (41 : Int32)) dX1_readPart_109 (by decide) ?_
        obtain ⟨c14, hw⟩ := wp_ck hw
        refine G_callV (As := [.int (41 : Int32)]) (s_X5_isAtSign hs l1 (41 : Int32) h10 _ (wp_cl hw)) ca_X5_isAtSign w_760 w_761 (ci := 5) rfl (by decide) w_881 c14 (by show 1 + 1 ≤ 6 + (d + 1); omega) (Nat.le_of_ble_eq_true rfl) rfl (Nat.le_of_ble_eq_true rfl) (Nat.le_of_ble_eq_true rfl) (Nat.le_of_ble_eq_true rfl) dX1_readPart_111 rfl (fun v h13 hq => ?_)
        obtain ⟨r12, rfl, hw⟩ := hq
        refine G.cse (cs' := (0, 0)) rfl ?_
        show GZ _ _ _ _ _ _ _ 114 _ (.int r12 :: []) _ _
        have hw := wp_if hw
        refine G_if_ne (tgt := 122) dX1_readPart_114 rfl (fun c15 => ?_) (fun c15 => ?_)
        · have hw := hw.2 c15
          refine G.less [none, some (.ref l1), none, none, none, none] ⟨rfl, trivial⟩ ?_
          exact f_X1_readPart_122_ok hs hR_X1_readPart hR_X1_readTests _ h13 Q hw
        · have hw := hw.1 c15
          refine G_aload_n dX1_readPart_117 rfl ?_
          refine G_iconst (v := (1 : Int32)) dX1_readPart_118 (by decide) ?_
          obtain ⟨c18, hw⟩ := wp_ck hw
          refine G_callV (As := [.int (1 : Int32)]) (s_X5_fail hs l1 (1 : Int32) h13 _ (wp_cl hw)) ca_X5_fail w_715 w_716 (ci := 5) rfl (by decide) w_883 c18 (by show 1 + 1 ≤ 6 + (d + 1); omega) (Nat.le_of_ble_eq_true rfl) rfl (Nat.le_of_ble_eq_true rfl) (Nat.le_of_ble_eq_true rfl) (Nat.le_of_ble_eq_true rfl) dX1_readPart_119 rfl (fun v h17 hq => ?_)
          obtain ⟨rfl, hw⟩ := hq
          refine G.cse (cs' := (0, 0)) rfl ?_
          show GZ _ _ _ _ _ _ _ 122 _ [] _ _
          refine G.less [none, some (.ref l1), none, none, none, none] ⟨rfl, trivial⟩ ?_
          exact f_X1_readPart_122_ok hs hR_X1_readPart hR_X1_readTests _ h17 Q hw
    · have hw := hw.2 c2
      refine G_aload_n dX1_readPart_70 rfl ?_
      obtain ⟨c21, hw⟩ := wp_ck hw
      refine G_callV (As := []) (s_X5_step hs l1 h _ (wp_cl hw)) ca_X5_step w_586 w_587 (ci := 5) rfl (by decide) w_884 c21 (by show 5 + 1 ≤ 6 + (d + 1); omega) (Nat.le_of_ble_eq_true rfl) rfl (Nat.le_of_ble_eq_true rfl) (Nat.le_of_ble_eq_true rfl) (Nat.le_of_ble_eq_true rfl) dX1_readPart_71 rfl (fun v h20 hq => ?_)
      obtain ⟨rfl, hw⟩ := hq
      refine G.cse (cs' := (0, 0)) rfl ?_
      show GZ _ _ _ _ _ _ _ 74 _ [] _ _
      refine G_aload_n dX1_readPart_74 rfl ?_
      refine G_aload_n dX1_readPart_75 rfl ?_
      refine G_iload_n dX1_readPart_76 rfl ?_
      refine G_iconst (v := (1 : Int32)) dX1_readPart_77 (by decide) ?_
      refine G_iadd dX1_readPart_78 ?_
      obtain ⟨c24, hw⟩ := wp_ck hw
      refine G_callV (As := [.ref l1, .int (l2 + (1 : Int32))]) (hR_X1_readPart l0 l1 (l2 + (1 : Int32)) h20 _ (wp_cl hw)) ca_X1_readPart w_862 w_18 (ci := 1) rfl (by decide) w_860 c24 (Nat.le_refl _) (Nat.le_of_ble_eq_true rfl) rfl (Nat.le_of_ble_eq_true rfl) (Nat.le_of_ble_eq_true rfl) (Nat.le_of_ble_eq_true rfl) dX1_readPart_79 rfl (fun v h23 hq => ?_)
      obtain ⟨rfl, hw⟩ := hq
      refine G.cse (cs' := (0, 0)) rfl ?_
      show GZ _ _ _ _ _ _ _ 82 _ [] _ _
      refine G_aload_n dX1_readPart_82 rfl ?_
      refine G_bipush (v := (-6 : Int32)) dX1_readPart_83 (by decide) ?_
      obtain ⟨c27, hw⟩ := wp_ck hw
      refine G_callV (As := [.int (-6 : Int32)]) (s_X1_put hs l0 (-6 : Int32) h23 _ (wp_cl hw)) ca_X1_put w_887 w_20 (ci := 1) rfl (by decide) w_885 c27 (by show 1 + 1 ≤ 6 + (d + 1); omega) (Nat.le_of_ble_eq_true rfl) rfl (Nat.le_of_ble_eq_true rfl) (Nat.le_of_ble_eq_true rfl) (Nat.le_of_ble_eq_true rfl) dX1_readPart_85 rfl (fun v h26 hq => ?_)
      obtain ⟨rfl, hw⟩ := hq
      refine G.cse (cs' := (0, 0)) rfl ?_
      show GZ _ _ _ _ _ _ _ 88 _ [] _ _
      refine G_goto (tgt := 149) dX1_readPart_88 rfl ?_
      exact G_vreturn rfl dX1_readPart_149 ⟨rfl, wp_ret hw⟩
  · have hw := hw.2 c1
    refine G_aload_n dX1_readPart_57 rfl ?_
    refine G_iconst (v := (5 : Int32)) dX1_readPart_58 (by decide) ?_
    obtain ⟨c30, hw⟩ := wp_ck hw
    refine G_callV (As := [.int (5 : Int32)]) (s_X5_fail hs l1 (5 : Int32) h _ (wp_cl hw)) ca_X5_fail w_715 w_716 (ci := 5) rfl (by decide) w_883 c30 (by show 1 + 1 ≤ 6 + (d + 1); omega) (Nat.le_of_ble_eq_true rfl) rfl (Nat.le_of_ble_eq_true rfl) (Nat.le_of_ble_eq_true rfl) (Nat.le_of_ble_eq_true rfl) dX1_readPart_59 rfl (fun v h29 hq => ?_)
    obtain ⟨rfl, hw⟩ := hq
    refine G.cse (cs' := (0, 0)) rfl ?_
    show GZ _ _ _ _ _ _ _ 62 _ [] _ _
    refine G_goto (tgt := 149) dX1_readPart_62 rfl ?_
    exact G_vreturn rfl dX1_readPart_149 ⟨rfl, wp_ret hw⟩
set_option maxHeartbeats 4000000 in
set_option maxRecDepth 100000 in
theorem s_X1_readPart_b {Γ : GX} (hs : SF Γ) {d : Nat} {R_X1_readPart : Nat → Nat → Int32 → PH → Option (Unit × PH)} {R_X1_readTests : Nat → Nat → Int32 → PH → Option (Unit × PH)} (hR_X1_readPart : ∀ (z0 : Nat) (z1 : Nat) (z2 : Int32) (h : PH) (Q : Unit → PH → Prop), wp (R_X1_readPart z0 z1 z2 h) Q → Spec Γ yX1_readPart cX1_readPart 6 none (6 + d, 0, 0) [.ref z0, .ref z1, .int z2] h (q_u Q)) (hR_X1_readTests : ∀ (z0 : Nat) (z1 : Nat) (z2 : Int32) (h : PH) (Q : Unit → PH → Prop), wp (R_X1_readTests z0 z1 z2 h) Q → Spec Γ yX1_readTests cX1_readTests 5 none (6 + d, 0, 0) [.ref z0, .ref z1, .int z2] h (q_u Q)) {N : Nat} (l0 : Nat) (l1 : Nat) (l2 : Int32) (h : PH) (Q : Unit → PH → Prop) (hw : wp (f_X1_readPart_b R_X1_readPart R_X1_readTests N l0 l1 l2 h) Q) : Spec Γ yX1_readPart cX1_readPart 6 none (6 + (d + 1), 0, 0) [.ref l0, .ref l1, .int l2] h (q_u Q) := by
  refine Spec.of (by decide) (Nat.le_of_ble_eq_true rfl) [some (.ref l0), some (.ref l1), some (.int l2), none, none, none] rfl ?_
  unfold f_X1_readPart_b at hw
  refine G_aload_n dX1_readPart_0 rfl ?_
  refine G_aload_n dX1_readPart_1 rfl ?_
  obtain ⟨c3, hw⟩ := wp_ck hw
  refine G_callV (As := [.ref l1]) (s_X1_factAt hs l0 l1 h _ (wp_cl hw)) ca_X1_factAt w_866 w_19 (ci := 1) rfl (by decide) w_864 c3 (by show 2 + 1 ≤ 6 + (d + 1); omega) (Nat.le_of_ble_eq_true rfl) rfl (Nat.le_of_ble_eq_true rfl) (Nat.le_of_ble_eq_true rfl) (Nat.le_of_ble_eq_true rfl) dX1_readPart_2 rfl (fun v h2 hq => ?_)
  obtain ⟨r1, rfl, hw⟩ := hq
  refine G.cse (cs' := (0, 0)) rfl ?_
  show GZ _ _ _ _ _ _ _ 5 _ (.int r1 :: []) _ _
  refine G_istore_n (lv' := [some (.ref l0), some (.ref l1), some (.int l2), some (.int r1), none, none]) dX1_readPart_5 (Nat.le_of_ble_eq_true rfl) rfl ?_
  refine G_aload_n dX1_readPart_6 rfl ?_
  refine G_getsW hs 19 rfl (by decide) w_879 dX1_readPart_7 ?_
  obtain ⟨c6, hw⟩ := wp_ck hw
  refine G_callV (As := [.ref (hW h2 19)]) (s_X5_isAt hs l1 (hW h2 19) h2 _ (wp_cl hw)) ca_X5_isAt w_703 w_704 (ci := 5) rfl (by decide) w_870 c6 (by show 1 + 1 ≤ 6 + (d + 1); omega) (Nat.le_of_ble_eq_true rfl) rfl (Nat.le_of_ble_eq_true rfl) (Nat.le_of_ble_eq_true rfl) (Nat.le_of_ble_eq_true rfl) dX1_readPart_10 rfl (fun v h5 hq => ?_)
  obtain ⟨r4, rfl, hw⟩ := hq
  refine G.cse (cs' := (0, 0)) rfl ?_
  show GZ _ _ _ _ _ _ _ 13 _ (.int r4 :: []) _ _
  refine G_istore (lv' := [some (.ref l0), some (.ref l1), some (.int l2), some (.int r1), some (.int r4), none]) dX1_readPart_13 (Nat.le_of_ble_eq_true rfl) rfl ?_
  refine G_aload_n dX1_readPart_15 rfl ?_
  refine G_bipush (v := (40 : Int32)) dX1_readPart_16 (by decide) ?_
  obtain ⟨c9, hw⟩ := wp_ck hw
  refine G_callV (As := [.int (40 : Int32)]) (s_X5_isAtSign hs l1 (40 : Int32) h5 _ (wp_cl hw)) ca_X5_isAtSign w_760 w_761 (ci := 5) rfl (by decide) w_881 c9 (by show 1 + 1 ≤ 6 + (d + 1); omega) (Nat.le_of_ble_eq_true rfl) rfl (Nat.le_of_ble_eq_true rfl) (Nat.le_of_ble_eq_true rfl) (Nat.le_of_ble_eq_true rfl) dX1_readPart_18 rfl (fun v h8 hq => ?_)
  obtain ⟨r7, rfl, hw⟩ := hq
  refine G.cse (cs' := (0, 0)) rfl ?_
  show GZ _ _ _ _ _ _ _ 21 _ (.int r7 :: []) _ _
  refine G_istore (lv' := [some (.ref l0), some (.ref l1), some (.int l2), some (.int r1), some (.int r4), some (.int r7)]) dX1_readPart_21 (Nat.le_of_ble_eq_true rfl) rfl ?_
  refine G_iload dX1_readPart_23 rfl ?_
  have hw := wp_if hw
  refine G_if_ne (tgt := 52) dX1_readPart_25 rfl (fun c10 => ?_) (fun c10 => ?_)
  · have hw := hw.2 c10
    refine G.less [some (.ref l0), some (.ref l1), some (.int l2), some (.int r1), some (.int r4), some (.int r7)] ⟨rfl, ⟨rfl, ⟨rfl, ⟨rfl, ⟨rfl, ⟨rfl, trivial⟩⟩⟩⟩⟩⟩ ?_
    exact f_X1_readPart_52_ok hs hR_X1_readPart hR_X1_readTests _ _ _ _ _ _ h8 Q hw
  · have hw := hw.1 c10
    refine G_iload dX1_readPart_28 rfl ?_
    have hw := wp_if hw
    refine G_if_ne (tgt := 52) dX1_readPart_30 rfl (fun c11 => ?_) (fun c11 => ?_)
    · have hw := hw.2 c11
      refine G.less [some (.ref l0), some (.ref l1), some (.int l2), some (.int r1), some (.int r4), some (.int r7)] ⟨rfl, ⟨rfl, ⟨rfl, ⟨rfl, ⟨rfl, ⟨rfl, trivial⟩⟩⟩⟩⟩⟩ ?_
      exact f_X1_readPart_52_ok hs hR_X1_readPart hR_X1_readTests _ _ _ _ _ _ h8 Q hw
    · have hw := hw.1 c11
      refine G_aload_n dX1_readPart_33 rfl ?_
      obtain ⟨c14, hw⟩ := wp_ck hw
      refine G_callV (As := []) (s_X5_isAtNumber hs l1 h8 _ (wp_cl hw)) ca_X5_isAtNumber w_748 w_749 (ci := 5) rfl (by decide) w_882 c14 (by show 1 + 1 ≤ 6 + (d + 1); omega) (Nat.le_of_ble_eq_true rfl) rfl (Nat.le_of_ble_eq_true rfl) (Nat.le_of_ble_eq_true rfl) (Nat.le_of_ble_eq_true rfl) dX1_readPart_34 rfl (fun v h13 hq => ?_)
      obtain ⟨r12, rfl, hw⟩ := hq
      refine G.cse (cs' := (0, 0)) rfl ?_
      show GZ _ _ _ _ _ _ _ 37 _ (.int r12 :: []) _ _
      have hw := wp_if hw
      refine G_if_ne (tgt := 52) dX1_readPart_37 rfl (fun c15 => ?_) (fun c15 => ?_)
      · have hw := hw.2 c15
        refine G.less [some (.ref l0), some (.ref l1), some (.int l2), some (.int r1), some (.int r4), some (.int r7)] ⟨rfl, ⟨rfl, ⟨rfl, ⟨rfl, ⟨rfl, ⟨rfl, trivial⟩⟩⟩⟩⟩⟩ ?_
        exact f_X1_readPart_52_ok hs hR_X1_readPart hR_X1_readTests _ _ _ _ _ _ h13 Q hw
      · have hw := hw.1 c15
        refine G_iload_n dX1_readPart_40 rfl ?_
        have hw := wp_if hw
        refine G_if_ne (tgt := 52) dX1_readPart_41 rfl (fun c16 => ?_) (fun c16 => ?_)
        · have hw := hw.2 c16
          refine G.less [some (.ref l0), some (.ref l1), some (.int l2), some (.int r1), some (.int r4), some (.int r7)] ⟨rfl, ⟨rfl, ⟨rfl, ⟨rfl, ⟨rfl, ⟨rfl, trivial⟩⟩⟩⟩⟩⟩ ?_
          exact f_X1_readPart_52_ok hs hR_X1_readPart hR_X1_readTests _ _ _ _ _ _ h13 Q hw
        · have hw := hw.1 c16
          refine G_aload_n dX1_readPart_44 rfl ?_
          refine G_iconst (v := (1 : Int32)) dX1_readPart_45 (by decide) ?_
          obtain ⟨c19, hw⟩ := wp_ck hw
          refine G_callV (As := [.int (1 : Int32)]) (s_X5_fail hs l1 (1 : Int32) h13 _ (wp_cl hw)) ca_X5_fail w_715 w_716 (ci := 5) rfl (by decide) w_883 c19 (by show 1 + 1 ≤ 6 + (d + 1); omega) (Nat.le_of_ble_eq_true rfl) rfl (Nat.le_of_ble_eq_true rfl) (Nat.le_of_ble_eq_true rfl) (Nat.le_of_ble_eq_true rfl) dX1_readPart_46 rfl (fun v h18 hq => ?_)
          obtain ⟨rfl, hw⟩ := hq
          refine G.cse (cs' := (0, 0)) rfl ?_
          show GZ _ _ _ _ _ _ _ 49 _ [] _ _
          refine G_goto (tgt := 149) dX1_readPart_49 rfl ?_
          exact G_vreturn rfl dX1_readPart_149 ⟨rfl, wp_ret hw⟩
theorem s_grp {Γ : GX} (hs : SF Γ) {N : Nat} : ∀ (d : Nat), (∀ (z0 : Nat) (z1 : Nat) (z2 : Int32) (h : PH) (Q : Unit → PH → Prop), wp ((f_grp N d).1 z0 z1 z2 h) Q → Spec Γ yX1_readTests cX1_readTests 5 none (6 + d, 0, 0) [.ref z0, .ref z1, .int z2] h (q_u Q)) ∧ (∀ (z0 : Nat) (z1 : Nat) (z2 : Int32) (h : PH) (Q : Unit → PH → Prop), wp ((f_grp N d).2.1 z0 z1 z2 h) Q → Spec Γ yX1_readTest cX1_readTest 4 none (6 + d, 0, 0) [.ref z0, .ref z1, .int z2] h (q_u Q)) ∧ (∀ (z0 : Nat) (z1 : Nat) (z2 : Int32) (h : PH) (Q : Unit → PH → Prop), wp ((f_grp N d).2.2.1 z0 z1 z2 h) Q → Spec Γ yX1_readSum cX1_readSum 5 none (6 + d, 0, 0) [.ref z0, .ref z1, .int z2] h (q_u Q)) ∧ (∀ (z0 : Nat) (z1 : Nat) (z2 : Int32) (h : PH) (Q : Unit → PH → Prop), wp ((f_grp N d).2.2.2.1 z0 z1 z2 h) Q → Spec Γ yX1_readProduct cX1_readProduct 4 none (6 + d, 0, 0) [.ref z0, .ref z1, .int z2] h (q_u Q)) ∧ (∀ (z0 : Nat) (z1 : Nat) (z2 : Int32) (h : PH) (Q : Unit → PH → Prop), wp ((f_grp N d).2.2.2.2 z0 z1 z2 h) Q → Spec Γ yX1_readPart cX1_readPart 6 none (6 + d, 0, 0) [.ref z0, .ref z1, .int z2] h (q_u Q))
  | 0 => ⟨fun _ _ _ _ Q hw => (wp_no hw).elim, fun _ _ _ _ Q hw => (wp_no hw).elim, fun _ _ _ _ Q hw => (wp_no hw).elim, fun _ _ _ _ Q hw => (wp_no hw).elim, fun _ _ _ _ Q hw => (wp_no hw).elim⟩
  | d + 1 => by
    have ih := s_grp hs (N := N) d
    exact ⟨fun z0 z1 z2 h Q hw => s_X1_readTests_b hs ih.2.1 z0 z1 z2 h Q hw,
      fun z0 z1 z2 h Q hw => s_X1_readTest_b hs ih.2.2.1 z0 z1 z2 h Q hw,
      fun z0 z1 z2 h Q hw => s_X1_readSum_b hs ih.2.2.2.1 z0 z1 z2 h Q hw,
      fun z0 z1 z2 h Q hw => s_X1_readProduct_b hs ih.2.2.2.2 z0 z1 z2 h Q hw,
      fun z0 z1 z2 h Q hw => s_X1_readPart_b hs ih.2.2.2.2 ih.1 z0 z1 z2 h Q hw⟩
theorem s_X1_readTests {Γ : GX} (hs : SF Γ) {N : Nat} (d : Nat) (z0 : Nat) (z1 : Nat) (z2 : Int32) (h : PH) (Q : Unit → PH → Prop) (hw : wp (f_X1_readTests d N z0 z1 z2 h) Q) : Spec Γ yX1_readTests cX1_readTests 5 none (6 + d, 0, 0) [.ref z0, .ref z1, .int z2] h (q_u Q) := (s_grp hs d).1 z0 z1 z2 h Q hw
theorem s_X1_readTest {Γ : GX} (hs : SF Γ) {N : Nat} (d : Nat) (z0 : Nat) (z1 : Nat) (z2 : Int32) (h : PH) (Q : Unit → PH → Prop) (hw : wp (f_X1_readTest d N z0 z1 z2 h) Q) : Spec Γ yX1_readTest cX1_readTest 4 none (6 + d, 0, 0) [.ref z0, .ref z1, .int z2] h (q_u Q) := (s_grp hs d).2.1 z0 z1 z2 h Q hw
theorem s_X1_readSum {Γ : GX} (hs : SF Γ) {N : Nat} (d : Nat) (z0 : Nat) (z1 : Nat) (z2 : Int32) (h : PH) (Q : Unit → PH → Prop) (hw : wp (f_X1_readSum d N z0 z1 z2 h) Q) : Spec Γ yX1_readSum cX1_readSum 5 none (6 + d, 0, 0) [.ref z0, .ref z1, .int z2] h (q_u Q) := (s_grp hs d).2.2.1 z0 z1 z2 h Q hw
theorem s_X1_readProduct {Γ : GX} (hs : SF Γ) {N : Nat} (d : Nat) (z0 : Nat) (z1 : Nat) (z2 : Int32) (h : PH) (Q : Unit → PH → Prop) (hw : wp (f_X1_readProduct d N z0 z1 z2 h) Q) : Spec Γ yX1_readProduct cX1_readProduct 4 none (6 + d, 0, 0) [.ref z0, .ref z1, .int z2] h (q_u Q) := (s_grp hs d).2.2.2.1 z0 z1 z2 h Q hw
theorem s_X1_readPart {Γ : GX} (hs : SF Γ) {N : Nat} (d : Nat) (z0 : Nat) (z1 : Nat) (z2 : Int32) (h : PH) (Q : Unit → PH → Prop) (hw : wp (f_X1_readPart d N z0 z1 z2 h) Q) : Spec Γ yX1_readPart cX1_readPart 6 none (6 + d, 0, 0) [.ref z0, .ref z1, .int z2] h (q_u Q) := (s_grp hs d).2.2.2.2 z0 z1 z2 h Q hw
