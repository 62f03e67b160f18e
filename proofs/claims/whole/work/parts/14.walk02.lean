set_option maxHeartbeats 4000000 in
set_option maxRecDepth 100000 in
theorem f_X3_find_89_ok {Γ : GX} (hs : SF Γ) {N : Nat} {K_46 : Nat → Nat → Int32 → Int32 → Int32 → PH → Option (Int32 × PH)} (hK_46 : ∀ (l0 : Nat) (l1 : Nat) (l3 : Int32) (l5 : Int32) (l6 : Int32) (h : PH) (Q : Int32 → PH → Prop), wp (K_46 l0 l1 l3 l5 l6 h) Q → G Γ yX3_find cX3_find 7 (some .boolean) (83, 0, 0) 46 [some (.ref l0), some (.ref l1), none, some (.int l3), none, some (.int l5), some (.int l6)] [] h (0, 0) (q_i Q)) (l0 : Nat) (l1 : Nat) (l3 : Int32) (l5 : Int32) (l6 : Int32) (h : PH) (Q : Int32 → PH → Prop) (hw : wp (f_X3_find_89 N K_46 l0 l1 l3 l5 l6 h) Q) : G Γ yX3_find cX3_find 7 (some .boolean) (83, 0, 0) 89 [some (.ref l0), some (.ref l1), none, some (.int l3), none, some (.int l5), some (.int l6)] [] h (0, 0) (q_i Q) := by
  unfold f_X3_find_89 at hw
  obtain ⟨v1, ev1⟩ : ∃ z : Int32, z = l6 + (1 : Int32) := ⟨_, rfl⟩
  have hw := wp_bd hw v1 ev1
  refine G_iinc (v := v1) (lv' := [some (.ref l0), some (.ref l1), none, some (.int l3), none, some (.int l5), some (.int v1)]) dX3_find_89 rfl (by rw [ev1]; rfl) (Nat.le_of_ble_eq_true rfl) rfl ?_
  refine G_goto (tgt := 46) dX3_find_92 rfl ?_
  refine G.less [some (.ref l0), some (.ref l1), none, some (.int l3), none, some (.int l5), some (.int v1)] ⟨rfl, ⟨rfl, ⟨rfl, ⟨rfl, ⟨rfl, trivial⟩⟩⟩⟩⟩ ?_
  exact hK_46 _ _ _ _ _ h Q hw
set_option maxHeartbeats 4000000 in
set_option maxRecDepth 100000 in
theorem f_X3_find_139_ok {Γ : GX} (hs : SF Γ) {N : Nat} (l0 : Nat) (h : PH) (Q : Int32 → PH → Prop) (hw : wp (f_X3_find_139 N l0 h) Q) : G Γ yX3_find cX3_find 7 (some .boolean) (83, 0, 0) 139 [some (.ref l0), none, none, none, none, none, none] [] h (0, 0) (q_i Q) := by
  unfold f_X3_find_139 at hw
  refine G_aload_n dX3_find_139 rfl ?_
  refine G_bipush (v := (9 : Int32)) dX3_find_140 (by decide) ?_
  obtain ⟨c1, hw⟩ := wp_ck hw
  refine G_putI fl_X3_fewest w_367 dX3_find_142 c1 ?_
  refine G.nmh fun h2 eh2 => ?_
  have hw := wp_bd hw h2 eh2
  refine G_aload_n dX3_find_145 rfl ?_
  refine G_iconst (v := (0 : Int32)) dX3_find_146 (by decide) ?_
  refine G_iconst (v := (0 : Int32)) dX3_find_147 (by decide) ?_
  refine G_iconst (v := (0 : Int32)) dX3_find_148 (by decide) ?_
  refine G_iconst (v := (0 : Int32)) dX3_find_149 (by decide) ?_
  obtain ⟨c5, hw⟩ := wp_ck hw
  refine G_callV (As := [.int (0 : Int32), .int (0 : Int32), .int (0 : Int32), .int (0 : Int32)]) (s_X3_goFirst hs 40 l0 (0 : Int32) (0 : Int32) (0 : Int32) (0 : Int32) h2 _ (wp_cl hw)) ca_X3_goFirst w_1136 w_29 (ci := 3) rfl (by decide) w_1134 c5 (Nat.le_of_ble_eq_true rfl) (Nat.le_of_ble_eq_true rfl) rfl (Nat.le_of_ble_eq_true rfl) (Nat.le_of_ble_eq_true rfl) (Nat.le_of_ble_eq_true rfl) dX3_find_150 rfl (fun v h4 hq => ?_)
  obtain ⟨rfl, hw⟩ := hq
  refine G.cse (cs' := (0, 0)) rfl ?_
  show GZ _ _ _ _ _ _ _ 153 _ [] _ _
  refine G_aload_n dX3_find_153 rfl ?_
  obtain ⟨c6, hw⟩ := wp_ck hw
  refine G_getI fl_X3_fewest w_367 dX3_find_154 c6 ?_
  refine G_bipush (v := (9 : Int32)) dX3_find_157 (by decide) ?_
  have hw := wp_if hw
  refine G_icmp_ge (tgt := 166) dX3_find_159 rfl (fun c7 => ?_) (fun c7 => ?_)
  · have hw := hw.1 c7
    refine G_iconst (v := (0 : Int32)) dX3_find_166 (by decide) ?_
    exact G_zreturn rfl dX3_find_167 rfl ⟨_, rfl, wp_ret hw⟩
  · have hw := hw.2 c7
    refine G_iconst (v := (1 : Int32)) dX3_find_162 (by decide) ?_
    refine G_goto (tgt := 167) dX3_find_163 rfl ?_
    exact G_zreturn rfl dX3_find_167 rfl ⟨_, rfl, wp_ret hw⟩
set_option maxHeartbeats 4000000 in
set_option maxRecDepth 100000 in
theorem f_X3_find_105_bok {Γ : GX} (hs : SF Γ) {N : Nat} {K_105 : Nat → Int32 → PH → Option (Int32 × PH)} (hK_105 : ∀ (l0 : Nat) (l6 : Int32) (h : PH) (Q : Int32 → PH → Prop), wp (K_105 l0 l6 h) Q → G Γ yX3_find cX3_find 7 (some .boolean) (83, 0, 0) 105 [some (.ref l0), none, none, none, none, none, some (.int l6)] [] h (0, 0) (q_i Q)) (l0 : Nat) (l6 : Int32) (h : PH) (Q : Int32 → PH → Prop) (hw : wp (f_X3_find_105_b N K_105 l0 l6 h) Q) : G Γ yX3_find cX3_find 7 (some .boolean) (83, 0, 0) 105 [some (.ref l0), none, none, none, none, none, some (.int l6)] [] h (0, 0) (q_i Q) := by
  unfold f_X3_find_105_b at hw
  refine G_iload dX3_find_105 rfl ?_
  refine G_iconst (v := (3 : Int32)) dX3_find_107 (by decide) ?_
  have hw := wp_if hw
  refine G_icmp_gt (tgt := 123) dX3_find_108 rfl (fun c1 => ?_) (fun c1 => ?_)
  · have hw := hw.1 c1
    refine G_aload_n dX3_find_123 rfl ?_
    obtain ⟨c2, hw⟩ := wp_ck hw
    refine G_getR fl_X3_reading w_361 dX3_find_124 c2 ?_
    obtain ⟨a3, ea3, hw⟩ := wp_rq hw
    refine G.sure ea3 ?_
    refine G_iconst (v := (0 : Int32)) dX3_find_127 (by decide) ?_
    refine G_callS (As := [.ref a3, .int (0 : Int32)]) (s_J7_fill_53178 hs a3 (0 : Int32) h _ (wp_cl hw)) ca_J7_fill_53178 w_214 w_1111 (Nat.le_of_ble_eq_true rfl) (Nat.le_of_ble_eq_true rfl) rfl (Nat.le_of_ble_eq_true rfl) (Nat.le_of_ble_eq_true rfl) (Nat.le_of_ble_eq_true rfl) dX3_find_128 rfl (fun v h5 hq => ?_)
    obtain ⟨rfl, hw⟩ := hq
    refine G.cse (cs' := (0, 0)) rfl ?_
    show GZ _ _ _ _ _ _ _ 131 _ [] _ _
    refine G_aload_n dX3_find_131 rfl ?_
    refine G_iconst (v := (0 : Int32)) dX3_find_132 (by decide) ?_
    refine G_iconst (v := (0 : Int32)) dX3_find_133 (by decide) ?_
    refine G_iconst (v := (0 : Int32)) dX3_find_134 (by decide) ?_
    refine G_iconst (v := (0 : Int32)) dX3_find_135 (by decide) ?_
    obtain ⟨c8, hw⟩ := wp_ck hw
    refine G_callV (As := [.int (0 : Int32), .int (0 : Int32), .int (0 : Int32), .int (0 : Int32)]) (s_X3_note hs 40 l0 (0 : Int32) (0 : Int32) (0 : Int32) (0 : Int32) h5 _ (wp_cl hw)) ca_X3_note w_1131 w_28 (ci := 3) rfl (by decide) w_1129 c8 (Nat.le_of_ble_eq_true rfl) (Nat.le_of_ble_eq_true rfl) rfl (Nat.le_of_ble_eq_true rfl) (Nat.le_of_ble_eq_true rfl) (Nat.le_of_ble_eq_true rfl) dX3_find_136 rfl (fun v h7 hq => ?_)
    obtain ⟨rfl, hw⟩ := hq
    refine G.cse (cs' := (0, 0)) rfl ?_
    show GZ _ _ _ _ _ _ _ 139 _ [] _ _
    refine G.less [some (.ref l0), none, none, none, none, none, none] ⟨rfl, trivial⟩ ?_
    exact f_X3_find_139_ok hs _ h7 Q hw
  · have hw := hw.2 c1
    refine G_aload_n dX3_find_111 rfl ?_
    refine G_iload dX3_find_112 rfl ?_
    obtain ⟨c11, hw⟩ := wp_ck hw
    refine G_callV (As := [.int l6]) (s_X3_prepare hs l0 l6 h _ (wp_cl hw)) ca_X3_prepare w_1114 w_25 (ci := 3) rfl (by decide) w_1112 c11 (Nat.le_of_ble_eq_true rfl) (Nat.le_of_ble_eq_true rfl) rfl (Nat.le_of_ble_eq_true rfl) (Nat.le_of_ble_eq_true rfl) (Nat.le_of_ble_eq_true rfl) dX3_find_114 rfl (fun v h10 hq => ?_)
    obtain ⟨rfl, hw⟩ := hq
    refine G.cse (cs' := (0, 0)) rfl ?_
    show GZ _ _ _ _ _ _ _ 117 _ [] _ _
    obtain ⟨v12, ev12⟩ : ∃ z : Int32, z = l6 + (1 : Int32) := ⟨_, rfl⟩
    have hw := wp_bd hw v12 ev12
    refine G_iinc (v := v12) (lv' := [some (.ref l0), none, none, none, none, none, some (.int v12)]) dX3_find_117 rfl (by rw [ev12]; rfl) (Nat.le_of_ble_eq_true rfl) rfl ?_
    refine G_goto (tgt := 105) dX3_find_120 rfl ?_
    refine G.less [some (.ref l0), none, none, none, none, none, some (.int v12)] ⟨rfl, ⟨rfl, trivial⟩⟩ ?_
    exact hK_105 _ _ h10 Q hw
theorem f_X3_find_105_ok {Γ : GX} (hs : SF Γ) {N : Nat} : ∀ (n : Nat) (l0 : Nat) (l6 : Int32) (h : PH) (Q : Int32 → PH → Prop), wp (f_X3_find_105 N n l0 l6 h) Q → G Γ yX3_find cX3_find 7 (some .boolean) (83, 0, 0) 105 [some (.ref l0), none, none, none, none, none, some (.int l6)] [] h (0, 0) (q_i Q)
  | 0, _, _, _, Q, hw => (wp_no hw).elim
  | n + 1, l0, l6, h, Q, hw => f_X3_find_105_bok (N := N) hs (f_X3_find_105_ok (N := N) hs n) l0 l6 h Q hw
set_option maxHeartbeats 4000000 in
set_option maxRecDepth 100000 in
theorem f_X3_find_46_bok {Γ : GX} (hs : SF Γ) {N : Nat} {K_46 : Nat → Nat → Int32 → Int32 → Int32 → PH → Option (Int32 × PH)} (hK_46 : ∀ (l0 : Nat) (l1 : Nat) (l3 : Int32) (l5 : Int32) (l6 : Int32) (h : PH) (Q : Int32 → PH → Prop), wp (K_46 l0 l1 l3 l5 l6 h) Q → G Γ yX3_find cX3_find 7 (some .boolean) (83, 0, 0) 46 [some (.ref l0), some (.ref l1), none, some (.int l3), none, some (.int l5), some (.int l6)] [] h (0, 0) (q_i Q)) (l0 : Nat) (l1 : Nat) (l3 : Int32) (l5 : Int32) (l6 : Int32) (h : PH) (Q : Int32 → PH → Prop) (hw : wp (f_X3_find_46_b N K_46 l0 l1 l3 l5 l6 h) Q) : G Γ yX3_find cX3_find 7 (some .boolean) (83, 0, 0) 46 [some (.ref l0), some (.ref l1), none, some (.int l3), none, some (.int l5), some (.int l6)] [] h (0, 0) (q_i Q) := by
  unfold f_X3_find_46_b at hw
  refine G_iload dX3_find_46 rfl ?_
  refine G_aload_n dX3_find_48 rfl ?_
  obtain ⟨c1, hw⟩ := wp_ck hw
  refine G_getNR fl_X6_many w_427 dX3_find_49 c1 ?_
  obtain ⟨a2, ea2, hw⟩ := wp_rq hw
  refine G.sure ea2 ?_
  refine G_iconst (v := (2 : Int32)) dX3_find_52 (by decide) ?_
  obtain ⟨c3, hw⟩ := wp_ck hw
  obtain ⟨c4, hw⟩ := wp_ck hw
  refine G_ialoadK (k := 2) dX3_find_53 c3 (by decide) rfl c4 ?_
  have hw := wp_if hw
  refine G_icmp_ge (tgt := 95) dX3_find_54 rfl (fun c5 => ?_) (fun c5 => ?_)
  · have hw := hw.1 c5
    refine G_iload dX3_find_95 rfl ?_
    refine G_bipush (v := (-2 : Int32)) dX3_find_97 (by decide) ?_
    have hw := wp_if hw
    refine G_icmp_eq (tgt := 139) dX3_find_99 rfl (fun c6 => ?_) (fun c6 => ?_)
    · have hw := hw.1 c6
      refine G.less [some (.ref l0), none, none, none, none, none, none] ⟨rfl, trivial⟩ ?_
      exact f_X3_find_139_ok hs _ h Q hw
    · have hw := hw.2 c6
      refine G_iconst (v := (0 : Int32)) dX3_find_102 (by decide) ?_
      refine G_istore (lv' := [some (.ref l0), some (.ref l1), none, some (.int l3), none, some (.int l5), some (.int (0 : Int32))]) dX3_find_103 (Nat.le_of_ble_eq_true rfl) rfl ?_
      refine G.less [some (.ref l0), none, none, none, none, none, some (.int (0 : Int32))] ⟨rfl, ⟨rfl, trivial⟩⟩ ?_
      exact f_X3_find_105_ok hs N _ _ h Q hw
  · have hw := hw.2 c5
    refine G_aload_n dX3_find_57 rfl ?_
    refine G_getNR fl_X6_houseFlue w_442 dX3_find_58 c1 ?_
    obtain ⟨a7, ea7, hw⟩ := wp_rq hw
    refine G.sure ea7 ?_
    refine G_iload dX3_find_61 rfl ?_
    obtain ⟨c8, hw⟩ := wp_ck hw
    obtain ⟨c9, hw⟩ := wp_ck hw
    refine G_iaload dX3_find_63 c8 c9 ?_
    refine G_iload_n dX3_find_64 rfl ?_
    have hw := wp_if hw
    refine G_icmp_ne (tgt := 89) dX3_find_65 rfl (fun c10 => ?_) (fun c10 => ?_)
    · have hw := hw.2 c10
      refine G.less [some (.ref l0), some (.ref l1), none, some (.int l3), none, some (.int l5), some (.int l6)] ⟨rfl, ⟨rfl, ⟨rfl, ⟨rfl, ⟨rfl, trivial⟩⟩⟩⟩⟩ ?_
      exact f_X3_find_89_ok hs hK_46 _ _ _ _ _ h Q hw
    · have hw := hw.1 c10
      refine G_aload_n dX3_find_68 rfl ?_
      obtain ⟨c11, hw⟩ := wp_ck hw
      refine G_getR fl_X3_houses w_353 dX3_find_69 c11 ?_
      obtain ⟨a12, ea12, hw⟩ := wp_rq hw
      refine G.sure ea12 ?_
      refine G_aload_n dX3_find_72 rfl ?_
      refine G_getI fl_X3_count w_364 dX3_find_73 c11 ?_
      refine G_iload dX3_find_76 rfl ?_
      obtain ⟨c13, hw⟩ := wp_ck hw
      obtain ⟨c14, hw⟩ := wp_ck hw
      refine G_iastore dX3_find_78 c13 c14 ?_
      refine G.nmh fun h15 eh15 => ?_
      have hw := wp_bd hw h15 eh15
      refine G_aload_n dX3_find_79 rfl ?_
      refine G_dup dX3_find_80 rfl ?_
      obtain ⟨c16, hw⟩ := wp_ck hw
      refine G_getI fl_X3_count w_364 dX3_find_81 c16 ?_
      refine G_iconst (v := (1 : Int32)) dX3_find_84 (by decide) ?_
      refine G_iadd dX3_find_85 ?_
      refine G_putI fl_X3_count w_364 dX3_find_86 c16 ?_
      refine G.nmh fun h17 eh17 => ?_
      have hw := wp_bd hw h17 eh17
      refine G.less [some (.ref l0), some (.ref l1), none, some (.int l3), none, some (.int l5), some (.int l6)] ⟨rfl, ⟨rfl, ⟨rfl, ⟨rfl, ⟨rfl, trivial⟩⟩⟩⟩⟩ ?_
      exact f_X3_find_89_ok hs hK_46 _ _ _ _ _ h17 Q hw
theorem f_X3_find_46_ok {Γ : GX} (hs : SF Γ) {N : Nat} : ∀ (n : Nat) (l0 : Nat) (l1 : Nat) (l3 : Int32) (l5 : Int32) (l6 : Int32) (h : PH) (Q : Int32 → PH → Prop), wp (f_X3_find_46 N n l0 l1 l3 l5 l6 h) Q → G Γ yX3_find cX3_find 7 (some .boolean) (83, 0, 0) 46 [some (.ref l0), some (.ref l1), none, some (.int l3), none, some (.int l5), some (.int l6)] [] h (0, 0) (q_i Q)
  | 0, _, _, _, _, _, _, Q, hw => (wp_no hw).elim
  | n + 1, l0, l1, l3, l5, l6, h, Q, hw => f_X3_find_46_bok (N := N) hs (f_X3_find_46_ok (N := N) hs n) l0 l1 l3 l5 l6 h Q hw
set_option maxHeartbeats 4000000 in
set_option maxRecDepth 100000 in
theorem s_X3_find {Γ : GX} (hs : SF Γ) {N : Nat} (l0 : Nat) (l1 : Nat) (l2 : Nat) (l3 : Int32) (l4 : Int32) (l5 : Int32) (h : PH) (Q : Int32 → PH → Prop) (hw : wp (f_X3_find N l0 l1 l2 l3 l4 l5 h) Q) : Spec Γ yX3_find cX3_find 7 (some .boolean) (83, 0, 0) [.ref l0, .ref l1, .ref l2, .int l3, .int l4, .int l5] h (q_i Q) := by
  refine Spec.of (by decide) (Nat.le_of_ble_eq_true rfl) [some (.ref l0), some (.ref l1), some (.ref l2), some (.int l3), some (.int l4), some (.int l5), none] rfl ?_
  unfold f_X3_find at hw
  refine G_aload_n dX3_find_0 rfl ?_
  refine G_aload_n dX3_find_1 rfl ?_
  obtain ⟨c1, hw⟩ := wp_ck hw
  refine G_putR (v := (some l1)) fl_X3_valley (Or.inl ⟨_, rfl⟩) w_362 dX3_find_2 c1 ?_
  refine G.nmh fun h2 eh2 => ?_
  have hw := wp_bd hw h2 eh2
  refine G_aload_n dX3_find_5 rfl ?_
  refine G_aload_n dX3_find_6 rfl ?_
  obtain ⟨c3, hw⟩ := wp_ck hw
  refine G_putR (v := (some l2)) fl_X3_state (Or.inl ⟨_, rfl⟩) w_363 dX3_find_7 c3 ?_
  refine G.nmh fun h4 eh4 => ?_
  have hw := wp_bd hw h4 eh4
  refine G_aload_n dX3_find_10 rfl ?_
  refine G_iload dX3_find_11 rfl ?_
  obtain ⟨c5, hw⟩ := wp_ck hw
  refine G_putI fl_X3_sign w_365 dX3_find_13 c5 ?_
  refine G.nmh fun h6 eh6 => ?_
  have hw := wp_bd hw h6 eh6
  refine G_aload_n dX3_find_16 rfl ?_
  refine G_iload dX3_find_17 rfl ?_
  obtain ⟨c7, hw⟩ := wp_ck hw
  refine G_putI fl_X3_second w_366 dX3_find_19 c7 ?_
  refine G.nmh fun h8 eh8 => ?_
  have hw := wp_bd hw h8 eh8
  refine G_aload_n dX3_find_22 rfl ?_
  refine G_iconst (v := (0 : Int32)) dX3_find_23 (by decide) ?_
  obtain ⟨c9, hw⟩ := wp_ck hw
  refine G_putI fl_X3_count w_364 dX3_find_24 c9 ?_
  refine G.nmh fun h10 eh10 => ?_
  have hw := wp_bd hw h10 eh10
  refine G_aload_n dX3_find_27 rfl ?_
  obtain ⟨c11, hw⟩ := wp_ck hw
  refine G_getR fl_X3_houses w_353 dX3_find_28 c11 ?_
  obtain ⟨a12, ea12, hw⟩ := wp_rq hw
  refine G.sure ea12 ?_
  refine G_iconst (v := (-1 : Int32)) dX3_find_31 (by decide) ?_
  refine G_callS (As := [.ref a12, .int (-1 : Int32)]) (s_J7_fill_53178 hs a12 (-1 : Int32) h10 _ (wp_cl hw)) ca_J7_fill_53178 w_214 w_1111 (Nat.le_of_ble_eq_true rfl) (Nat.le_of_ble_eq_true rfl) rfl (Nat.le_of_ble_eq_true rfl) (Nat.le_of_ble_eq_true rfl) (Nat.le_of_ble_eq_true rfl) dX3_find_32 rfl (fun v h14 hq => ?_)
  obtain ⟨rfl, hw⟩ := hq
  refine G.cse (cs' := (0, 0)) rfl ?_
  show GZ _ _ _ _ _ _ _ 35 _ [] _ _
  refine G_aload_n dX3_find_35 rfl ?_
  obtain ⟨c15, hw⟩ := wp_ck hw
  refine G_getR fl_X3_row w_354 dX3_find_36 c15 ?_
  obtain ⟨a16, ea16, hw⟩ := wp_rq hw
  refine G.sure ea16 ?_
  refine G_iconst (v := (-1 : Int32)) dX3_find_39 (by decide) ?_
  refine G_callS (As := [.ref a16, .int (-1 : Int32)]) (s_J7_fill_53178 hs a16 (-1 : Int32) h14 _ (wp_cl hw)) ca_J7_fill_53178 w_214 w_1111 (Nat.le_of_ble_eq_true rfl) (Nat.le_of_ble_eq_true rfl) rfl (Nat.le_of_ble_eq_true rfl) (Nat.le_of_ble_eq_true rfl) (Nat.le_of_ble_eq_true rfl) dX3_find_40 rfl (fun v h18 hq => ?_)
  obtain ⟨rfl, hw⟩ := hq
  refine G.cse (cs' := (0, 0)) rfl ?_
  show GZ _ _ _ _ _ _ _ 43 _ [] _ _
  refine G_iconst (v := (0 : Int32)) dX3_find_43 (by decide) ?_
  refine G_istore (lv' := [some (.ref l0), some (.ref l1), some (.ref l2), some (.int l3), some (.int l4), some (.int l5), some (.int (0 : Int32))]) dX3_find_44 (Nat.le_of_ble_eq_true rfl) rfl ?_
  refine G.less [some (.ref l0), some (.ref l1), none, some (.int l3), none, some (.int l5), some (.int (0 : Int32))] ⟨rfl, ⟨rfl, ⟨rfl, ⟨rfl, ⟨rfl, trivial⟩⟩⟩⟩⟩ ?_
  exact f_X3_find_46_ok hs N _ _ _ _ _ h18 Q hw
set_option maxHeartbeats 4000000 in
set_option maxRecDepth 100000 in
theorem f_X3_firstOf_2_bok {Γ : GX} (hs : SF Γ) {N : Nat} {K_2 : Nat → Int32 → Int32 → PH → Option (Int32 × PH)} (hK_2 : ∀ (l0 : Nat) (l1 : Int32) (l2 : Int32) (h : PH) (Q : Int32 → PH → Prop), wp (K_2 l0 l1 l2 h) Q → G Γ yX3_firstOf cX3_firstOf 3 (some .int) (1, 0, 0) 2 [some (.ref l0), some (.int l1), some (.int l2)] [] h (0, 0) (q_i Q)) (l0 : Nat) (l1 : Int32) (l2 : Int32) (h : PH) (Q : Int32 → PH → Prop) (hw : wp (f_X3_firstOf_2_b N K_2 l0 l1 l2 h) Q) : G Γ yX3_firstOf cX3_firstOf 3 (some .int) (1, 0, 0) 2 [some (.ref l0), some (.int l1), some (.int l2)] [] h (0, 0) (q_i Q) := by
  unfold f_X3_firstOf_2_b at hw
  refine G_iload_n dX3_firstOf_2 rfl ?_
  refine G_aload_n dX3_firstOf_3 rfl ?_
  obtain ⟨c1, hw⟩ := wp_ck hw
  refine G_getI fl_X3_count w_364 dX3_firstOf_4 c1 ?_
  have hw := wp_if hw
  refine G_icmp_ge (tgt := 33) dX3_firstOf_7 rfl (fun c2 => ?_) (fun c2 => ?_)
  · have hw := hw.1 c2
    refine G_iconst (v := (-1 : Int32)) dX3_firstOf_33 (by decide) ?_
    exact G_ireturn rfl dX3_firstOf_34 ⟨_, rfl, wp_ret hw⟩
  · have hw := hw.2 c2
    refine G_aload_n dX3_firstOf_10 rfl ?_
    refine G_getR fl_X3_houses w_353 dX3_firstOf_11 c1 ?_
    obtain ⟨a3, ea3, hw⟩ := wp_rq hw
    refine G.sure ea3 ?_
    refine G_iload_n dX3_firstOf_14 rfl ?_
    obtain ⟨c4, hw⟩ := wp_ck hw
    obtain ⟨c5, hw⟩ := wp_ck hw
    refine G_iaload dX3_firstOf_15 c4 c5 ?_
    refine G_iload_n dX3_firstOf_16 rfl ?_
    have hw := wp_if hw
    refine G_icmp_ne (tgt := 27) dX3_firstOf_17 rfl (fun c6 => ?_) (fun c6 => ?_)
    · have hw := hw.2 c6
      obtain ⟨v7, ev7⟩ : ∃ z : Int32, z = l2 + (1 : Int32) := ⟨_, rfl⟩
      have hw := wp_bd hw v7 ev7
      refine G_iinc (v := v7) (lv' := [some (.ref l0), some (.int l1), some (.int v7)]) dX3_firstOf_27 rfl (by rw [ev7]; rfl) (Nat.le_of_ble_eq_true rfl) rfl ?_
      refine G_goto (tgt := 2) dX3_firstOf_30 rfl ?_
      refine G.less [some (.ref l0), some (.int l1), some (.int v7)] ⟨rfl, ⟨rfl, ⟨rfl, trivial⟩⟩⟩ ?_
      exact hK_2 _ _ _ h Q hw
    · have hw := hw.1 c6
      refine G_aload_n dX3_firstOf_20 rfl ?_
      refine G_getR fl_X3_best w_355 dX3_firstOf_21 c1 ?_
      obtain ⟨a8, ea8, hw⟩ := wp_rq hw
      refine G.sure ea8 ?_
      refine G_iload_n dX3_firstOf_24 rfl ?_
      obtain ⟨c9, hw⟩ := wp_ck hw
      obtain ⟨c10, hw⟩ := wp_ck hw
      refine G_iaload dX3_firstOf_25 c9 c10 ?_
      exact G_ireturn rfl dX3_firstOf_26 ⟨_, rfl, wp_ret hw⟩
theorem f_X3_firstOf_2_ok {Γ : GX} (hs : SF Γ) {N : Nat} : ∀ (n : Nat) (l0 : Nat) (l1 : Int32) (l2 : Int32) (h : PH) (Q : Int32 → PH → Prop), wp (f_X3_firstOf_2 N n l0 l1 l2 h) Q → G Γ yX3_firstOf cX3_firstOf 3 (some .int) (1, 0, 0) 2 [some (.ref l0), some (.int l1), some (.int l2)] [] h (0, 0) (q_i Q)
  | 0, _, _, _, _, Q, hw => (wp_no hw).elim
  | n + 1, l0, l1, l2, h, Q, hw => f_X3_firstOf_2_bok (N := N) hs (f_X3_firstOf_2_ok (N := N) hs n) l0 l1 l2 h Q hw
set_option maxHeartbeats 4000000 in
set_option maxRecDepth 100000 in
theorem s_X3_firstOf {Γ : GX} (hs : SF Γ) {N : Nat} (l0 : Nat) (l1 : Int32) (h : PH) (Q : Int32 → PH → Prop) (hw : wp (f_X3_firstOf N l0 l1 h) Q) : Spec Γ yX3_firstOf cX3_firstOf 3 (some .int) (1, 0, 0) [.ref l0, .int l1] h (q_i Q) := by
  refine Spec.of (by decide) (Nat.le_of_ble_eq_true rfl) [some (.ref l0), some (.int l1), none] rfl ?_
  unfold f_X3_firstOf at hw
  refine G_iconst (v := (0 : Int32)) dX3_firstOf_0 (by decide) ?_
  refine G_istore_n (lv' := [some (.ref l0), some (.int l1), some (.int (0 : Int32))]) dX3_firstOf_1 (Nat.le_of_ble_eq_true rfl) rfl ?_
  refine G.less [some (.ref l0), some (.int l1), some (.int (0 : Int32))] ⟨rfl, ⟨rfl, ⟨rfl, trivial⟩⟩⟩ ?_
  exact f_X3_firstOf_2_ok hs N _ _ _ h Q hw
set_option maxHeartbeats 4000000 in
set_option maxRecDepth 100000 in
theorem f_X10_spell_62_ok {Γ : GX} (hs : SF Γ) {N : Nat} (l0 : Nat) (l1 : Int32) (l2 : Int32) (l3 : Int32) (l4 : Int32) (h : PH) (Q : Int32 → PH → Prop) (hw : wp (f_X10_spell_62 N l0 l1 l2 l3 l4 h) Q) : G Γ yX10_spell cX10_spell 5 (some .int) (84, 0, 0) 62 [some (.ref l0), some (.int l1), some (.int l2), some (.int l3), some (.int l4)] [] h (0, 0) (q_i Q) := by
  unfold f_X10_spell_62 at hw
  refine G_aload_n dX10_spell_62 rfl ?_
  obtain ⟨c1, hw⟩ := wp_ck hw
  refine G_getR fl_X10_speller w_504 dX10_spell_63 c1 ?_
  obtain ⟨a2, ea2, hw⟩ := wp_rq hw
  refine G.sure ea2 ?_
  refine G_aload_n dX10_spell_66 rfl ?_
  refine G_getR fl_X10_valley w_507 dX10_spell_67 c1 ?_
  obtain ⟨a3, ea3, hw⟩ := wp_rq hw
  refine G.sure ea3 ?_
  refine G_aload_n dX10_spell_70 rfl ?_
  refine G_getR fl_X10_now w_498 dX10_spell_71 c1 ?_
  obtain ⟨a4, ea4, hw⟩ := wp_rq hw
  refine G.sure ea4 ?_
  obtain ⟨c5, hw⟩ := wp_ck hw
  refine G_getNR fl_X2_state w_257 dX10_spell_74 c5 ?_
  obtain ⟨a6, ea6, hw⟩ := wp_rq hw
  refine G.sure ea6 ?_
  refine G_iload_n dX10_spell_77 rfl ?_
  refine G_iload_n dX10_spell_78 rfl ?_
  refine G_iload_n dX10_spell_79 rfl ?_
  obtain ⟨c9, hw⟩ := wp_ck hw
  refine G_callV (As := [.ref a3, .ref a6, .int l1, .int l2, .int l3]) (s_X3_find hs a2 a3 a6 l1 l2 l3 h _ (wp_cl hw)) ca_X3_find w_1108 w_1109 (ci := 3) rfl (by decide) w_1107 c9 (Nat.le_of_ble_eq_true rfl) (Nat.le_of_ble_eq_true rfl) rfl (Nat.le_of_ble_eq_true rfl) (Nat.le_of_ble_eq_true rfl) (Nat.le_of_ble_eq_true rfl) dX10_spell_80 rfl (fun v h8 hq => ?_)
  obtain ⟨r7, rfl, hw⟩ := hq
  refine G.cse (cs' := (0, 0)) rfl ?_
  show GZ _ _ _ _ _ _ _ 83 _ (.int r7 :: []) _ _
  have hw := wp_if hw
  refine G_if_ne (tgt := 89) dX10_spell_83 rfl (fun c10 => ?_) (fun c10 => ?_)
  · have hw := hw.2 c10
    refine G_iload dX10_spell_89 rfl ?_
    refine G_iconst (v := (-1 : Int32)) dX10_spell_91 (by decide) ?_
    have hw := wp_if hw
    refine G_icmp_ne (tgt := 105) dX10_spell_92 rfl (fun c11 => ?_) (fun c11 => ?_)
    · have hw := hw.2 c11
      refine G_aload_n dX10_spell_105 rfl ?_
      obtain ⟨c12, hw⟩ := wp_ck hw
      refine G_getR fl_X10_speller w_504 dX10_spell_106 c12 ?_
      obtain ⟨a13, ea13, hw⟩ := wp_rq hw
      refine G.sure ea13 ?_
      refine G_iload dX10_spell_109 rfl ?_
      obtain ⟨c16, hw⟩ := wp_ck hw
      refine G_callV (As := [.int l4]) (s_X3_firstOf hs a13 l4 h8 _ (wp_cl hw)) ca_X3_firstOf w_1154 w_1155 (ci := 3) rfl (by decide) w_1153 c16 (Nat.le_of_ble_eq_true rfl) (Nat.le_of_ble_eq_true rfl) rfl (Nat.le_of_ble_eq_true rfl) (Nat.le_of_ble_eq_true rfl) (Nat.le_of_ble_eq_true rfl) dX10_spell_111 rfl (fun v h15 hq => ?_)
      obtain ⟨r14, rfl, hw⟩ := hq
      refine G.cse (cs' := (0, 0)) rfl ?_
      show GZ _ _ _ _ _ _ _ 114 _ (.int r14 :: []) _ _
      exact G_ireturn rfl dX10_spell_114 ⟨_, rfl, wp_ret hw⟩
    · have hw := hw.1 c11
      refine G_aload_n dX10_spell_95 rfl ?_
      obtain ⟨c17, hw⟩ := wp_ck hw
      refine G_getR fl_X10_speller w_504 dX10_spell_96 c17 ?_
      obtain ⟨a18, ea18, hw⟩ := wp_rq hw
      refine G.sure ea18 ?_
      obtain ⟨c19, hw⟩ := wp_ck hw
      refine G_getNI fl_X3_fewest w_368 dX10_spell_99 c19 ?_
      refine G_goto (tgt := 114) dX10_spell_102 rfl ?_
      exact G_ireturn rfl dX10_spell_114 ⟨_, rfl, wp_ret hw⟩
  · have hw := hw.1 c10
    refine G_bipush (v := (-2 : Int32)) dX10_spell_86 (by decide) ?_
    exact G_ireturn rfl dX10_spell_88 ⟨_, rfl, wp_ret hw⟩
set_option maxHeartbeats 4000000 in
set_option maxRecDepth 100000 in
theorem f_X10_spell_40_ok {Γ : GX} (hs : SF Γ) {N : Nat} (l0 : Nat) (l1 : Int32) (l2 : Int32) (l3 : Int32) (l4 : Int32) (h : PH) (Q : Int32 → PH → Prop) (hw : wp (f_X10_spell_40 N l0 l1 l2 l3 l4 h) Q) : G Γ yX10_spell cX10_spell 5 (some .int) (84, 0, 0) 40 [some (.ref l0), some (.int l1), some (.int l2), some (.int l3), some (.int l4)] [] h (0, 0) (q_i Q) := by
  unfold f_X10_spell_40 at hw
  refine G_iload dX10_spell_40 rfl ?_
  refine G_iconst (v := (-1 : Int32)) dX10_spell_42 (by decide) ?_
  have hw := wp_if hw
  refine G_icmp_eq (tgt := 62) dX10_spell_43 rfl (fun c1 => ?_) (fun c1 => ?_)
  · have hw := hw.1 c1
    refine G.less [some (.ref l0), some (.int l1), some (.int l2), some (.int l3), some (.int l4)] ⟨rfl, ⟨rfl, ⟨rfl, ⟨rfl, ⟨rfl, trivial⟩⟩⟩⟩⟩ ?_
    exact f_X10_spell_62_ok hs _ _ _ _ _ h Q hw
  · have hw := hw.2 c1
    refine G_aload_n dX10_spell_46 rfl ?_
    obtain ⟨c2, hw⟩ := wp_ck hw
    refine G_getR fl_X10_valley w_507 dX10_spell_47 c2 ?_
    obtain ⟨a3, ea3, hw⟩ := wp_rq hw
    refine G.sure ea3 ?_
    refine G_iconst (v := (2 : Int32)) dX10_spell_50 (by decide) ?_
    refine G_iload dX10_spell_51 rfl ?_
    obtain ⟨c6, hw⟩ := wp_ck hw
    refine G_callV (As := [.int (2 : Int32), .int l4]) (s_X6_has hs a3 (2 : Int32) l4 h _ (wp_cl hw)) ca_X6_has w_955 w_956 (ci := 6) rfl (by decide) w_954 c6 (Nat.le_of_ble_eq_true rfl) (Nat.le_of_ble_eq_true rfl) rfl (Nat.le_of_ble_eq_true rfl) (Nat.le_of_ble_eq_true rfl) (Nat.le_of_ble_eq_true rfl) dX10_spell_53 rfl (fun v h5 hq => ?_)
    obtain ⟨r4, rfl, hw⟩ := hq
    refine G.cse (cs' := (0, 0)) rfl ?_
    show GZ _ _ _ _ _ _ _ 56 _ (.int r4 :: []) _ _
    have hw := wp_if hw
    refine G_if_ne (tgt := 62) dX10_spell_56 rfl (fun c7 => ?_) (fun c7 => ?_)
    · have hw := hw.2 c7
      refine G.less [some (.ref l0), some (.int l1), some (.int l2), some (.int l3), some (.int l4)] ⟨rfl, ⟨rfl, ⟨rfl, ⟨rfl, ⟨rfl, trivial⟩⟩⟩⟩⟩ ?_
      exact f_X10_spell_62_ok hs _ _ _ _ _ h5 Q hw
    · have hw := hw.1 c7
      refine G_bipush (v := (-2 : Int32)) dX10_spell_59 (by decide) ?_
      exact G_ireturn rfl dX10_spell_61 ⟨_, rfl, wp_ret hw⟩
set_option maxHeartbeats 4000000 in
set_option maxRecDepth 100000 in
theorem s_X10_spell {Γ : GX} (hs : SF Γ) {N : Nat} (l0 : Nat) (l1 : Int32) (l2 : Int32) (l3 : Int32) (l4 : Int32) (h : PH) (Q : Int32 → PH → Prop) (hw : wp (f_X10_spell N l0 l1 l2 l3 l4 h) Q) : Spec Γ yX10_spell cX10_spell 5 (some .int) (84, 0, 0) [.ref l0, .int l1, .int l2, .int l3, .int l4] h (q_i Q) := by
  refine Spec.of (by decide) (Nat.le_of_ble_eq_true rfl) [some (.ref l0), some (.int l1), some (.int l2), some (.int l3), some (.int l4)] rfl ?_
  unfold f_X10_spell at hw
  refine G_aload_n dX10_spell_0 rfl ?_
  obtain ⟨c1, hw⟩ := wp_ck hw
  refine G_getR fl_X10_valley w_507 dX10_spell_1 c1 ?_
  obtain ⟨a2, ea2, hw⟩ := wp_rq hw
  refine G.sure ea2 ?_
  refine G_iconst (v := (1 : Int32)) dX10_spell_4 (by decide) ?_
  refine G_iload_n dX10_spell_5 rfl ?_
  obtain ⟨c5, hw⟩ := wp_ck hw
  refine G_callV (As := [.int (1 : Int32), .int l1]) (s_X6_has hs a2 (1 : Int32) l1 h _ (wp_cl hw)) ca_X6_has w_955 w_956 (ci := 6) rfl (by decide) w_954 c5 (Nat.le_of_ble_eq_true rfl) (Nat.le_of_ble_eq_true rfl) rfl (Nat.le_of_ble_eq_true rfl) (Nat.le_of_ble_eq_true rfl) (Nat.le_of_ble_eq_true rfl) dX10_spell_6 rfl (fun v h4 hq => ?_)
  obtain ⟨r3, rfl, hw⟩ := hq
  refine G.cse (cs' := (0, 0)) rfl ?_
  show GZ _ _ _ _ _ _ _ 9 _ (.int r3 :: []) _ _
  have hw := wp_if hw
  refine G_if_eq (tgt := 20) dX10_spell_9 rfl (fun c6 => ?_) (fun c6 => ?_)
  · have hw := hw.1 c6
    refine G_bipush (v := (-2 : Int32)) dX10_spell_20 (by decide) ?_
    exact G_ireturn rfl dX10_spell_22 ⟨_, rfl, wp_ret hw⟩
  · have hw := hw.2 c6
    refine G_aload_n dX10_spell_12 rfl ?_
    refine G_iload_n dX10_spell_13 rfl ?_
    obtain ⟨c9, hw⟩ := wp_ck hw
    refine G_callV (As := [.int l2]) (s_X10_isSignOrNone hs l0 l2 h4 _ (wp_cl hw)) ca_X10_isSignOrNone w_1105 w_24 (ci := 9) rfl (by decide) w_1103 c9 (Nat.le_of_ble_eq_true rfl) (Nat.le_of_ble_eq_true rfl) rfl (Nat.le_of_ble_eq_true rfl) (Nat.le_of_ble_eq_true rfl) (Nat.le_of_ble_eq_true rfl) dX10_spell_14 rfl (fun v h8 hq => ?_)
    obtain ⟨r7, rfl, hw⟩ := hq
    refine G.cse (cs' := (0, 0)) rfl ?_
    show GZ _ _ _ _ _ _ _ 17 _ (.int r7 :: []) _ _
    have hw := wp_if hw
    refine G_if_ne (tgt := 23) dX10_spell_17 rfl (fun c10 => ?_) (fun c10 => ?_)
    · have hw := hw.2 c10
      refine G_iload_n dX10_spell_23 rfl ?_
      refine G_bipush (v := (-2 : Int32)) dX10_spell_24 (by decide) ?_
      have hw := wp_if hw
      refine G_icmp_eq (tgt := 40) dX10_spell_26 rfl (fun c11 => ?_) (fun c11 => ?_)
      · have hw := hw.1 c11
        refine G.less [some (.ref l0), some (.int l1), some (.int l2), some (.int l3), some (.int l4)] ⟨rfl, ⟨rfl, ⟨rfl, ⟨rfl, ⟨rfl, trivial⟩⟩⟩⟩⟩ ?_
        exact f_X10_spell_40_ok hs _ _ _ _ _ h8 Q hw
      · have hw := hw.2 c11
        refine G_aload_n dX10_spell_29 rfl ?_
        refine G_iload_n dX10_spell_30 rfl ?_
        obtain ⟨c14, hw⟩ := wp_ck hw
        refine G_callV (As := [.int l3]) (s_X10_isSignOrNone hs l0 l3 h8 _ (wp_cl hw)) ca_X10_isSignOrNone w_1105 w_24 (ci := 9) rfl (by decide) w_1103 c14 (Nat.le_of_ble_eq_true rfl) (Nat.le_of_ble_eq_true rfl) rfl (Nat.le_of_ble_eq_true rfl) (Nat.le_of_ble_eq_true rfl) (Nat.le_of_ble_eq_true rfl) dX10_spell_31 rfl (fun v h13 hq => ?_)
        obtain ⟨r12, rfl, hw⟩ := hq
        refine G.cse (cs' := (0, 0)) rfl ?_
        show GZ _ _ _ _ _ _ _ 34 _ (.int r12 :: []) _ _
        have hw := wp_if hw
        refine G_if_ne (tgt := 40) dX10_spell_34 rfl (fun c15 => ?_) (fun c15 => ?_)
        · have hw := hw.2 c15
          refine G.less [some (.ref l0), some (.int l1), some (.int l2), some (.int l3), some (.int l4)] ⟨rfl, ⟨rfl, ⟨rfl, ⟨rfl, ⟨rfl, trivial⟩⟩⟩⟩⟩ ?_
          exact f_X10_spell_40_ok hs _ _ _ _ _ h13 Q hw
        · have hw := hw.1 c15
          refine G_bipush (v := (-2 : Int32)) dX10_spell_37 (by decide) ?_
          exact G_ireturn rfl dX10_spell_39 ⟨_, rfl, wp_ret hw⟩
    · have hw := hw.1 c10
      refine G_bipush (v := (-2 : Int32)) dX10_spell_20 (by decide) ?_
      exact G_ireturn rfl dX10_spell_22 ⟨_, rfl, wp_ret hw⟩
set_option maxHeartbeats 4000000 in
set_option maxRecDepth 100000 in
theorem f_X8_choicesOf_46_ok {Γ : GX} (hs : SF Γ) {N : Nat} {K_17 : Nat → Int32 → Int32 → Int32 → Int32 → PH → Option (Int32 × PH)} (hK_17 : ∀ (l0 : Nat) (l1 : Int32) (l2 : Int32) (l3 : Int32) (l4 : Int32) (h : PH) (Q : Int32 → PH → Prop), wp (K_17 l0 l1 l2 l3 l4 h) Q → G Γ yX8_choicesOf cX8_choicesOf 5 (some .int) (3, 0, 0) 17 [some (.ref l0), some (.int l1), some (.int l2), some (.int l3), some (.int l4)] [] h (0, 0) (q_i Q)) (l0 : Nat) (l1 : Int32) (l2 : Int32) (l3 : Int32) (l4 : Int32) (h : PH) (Q : Int32 → PH → Prop) (hw : wp (f_X8_choicesOf_46 N K_17 l0 l1 l2 l3 l4 h) Q) : G Γ yX8_choicesOf cX8_choicesOf 5 (some .int) (3, 0, 0) 46 [some (.ref l0), some (.int l1), some (.int l2), some (.int l3), some (.int l4)] [] h (0, 0) (q_i Q) := by
  unfold f_X8_choicesOf_46 at hw
  obtain ⟨v1, ev1⟩ : ∃ z : Int32, z = l4 + (1 : Int32) := ⟨_, rfl⟩
  have hw := wp_bd hw v1 ev1
  refine G_iinc (v := v1) (lv' := [some (.ref l0), some (.int l1), some (.int l2), some (.int l3), some (.int v1)]) dX8_choicesOf_46 rfl (by rw [ev1]; rfl) (Nat.le_of_ble_eq_true rfl) rfl ?_
  refine G_goto (tgt := 17) dX8_choicesOf_49 rfl ?_
  refine G.less [some (.ref l0), some (.int l1), some (.int l2), some (.int l3), some (.int v1)] ⟨rfl, ⟨rfl, ⟨rfl, ⟨rfl, ⟨rfl, trivial⟩⟩⟩⟩⟩ ?_
  exact hK_17 _ _ _ _ _ h Q hw
set_option maxHeartbeats 4000000 in
set_option maxRecDepth 100000 in
theorem f_X8_choicesOf_17_bok {Γ : GX} (hs : SF Γ) {N : Nat} {K_17 : Nat → Int32 → Int32 → Int32 → Int32 → PH → Option (Int32 × PH)} (hK_17 : ∀ (l0 : Nat) (l1 : Int32) (l2 : Int32) (l3 : Int32) (l4 : Int32) (h : PH) (Q : Int32 → PH → Prop), wp (K_17 l0 l1 l2 l3 l4 h) Q → G Γ yX8_choicesOf cX8_choicesOf 5 (some .int) (3, 0, 0) 17 [some (.ref l0), some (.int l1), some (.int l2), some (.int l3), some (.int l4)] [] h (0, 0) (q_i Q)) (l0 : Nat) (l1 : Int32) (l2 : Int32) (l3 : Int32) (l4 : Int32) (h : PH) (Q : Int32 → PH → Prop) (hw : wp (f_X8_choicesOf_17_b N K_17 l0 l1 l2 l3 l4 h) Q) : G Γ yX8_choicesOf cX8_choicesOf 5 (some .int) (3, 0, 0) 17 [some (.ref l0), some (.int l1), some (.int l2), some (.int l3), some (.int l4)] [] h (0, 0) (q_i Q) := by
  unfold f_X8_choicesOf_17_b at hw
  refine G_iload dX8_choicesOf_17 rfl ?_
  refine G_iload_n dX8_choicesOf_19 rfl ?_
  have hw := wp_if hw
  refine G_icmp_ge (tgt := 52) dX8_choicesOf_20 rfl (fun c1 => ?_) (fun c1 => ?_)
  · have hw := hw.1 c1
    refine G_iload_n dX8_choicesOf_52 rfl ?_
    exact G_ireturn rfl dX8_choicesOf_53 ⟨_, rfl, wp_ret hw⟩
  · have hw := hw.2 c1
    refine G_aload_n dX8_choicesOf_23 rfl ?_
    obtain ⟨c2, hw⟩ := wp_ck hw
    refine G_getR fl_X8_moment w_299 dX8_choicesOf_24 c2 ?_
    obtain ⟨a3, ea3, hw⟩ := wp_rq hw
    refine G.sure ea3 ?_
    obtain ⟨c4, hw⟩ := wp_ck hw
    refine G_getNR fl_X2_state w_256 dX8_choicesOf_27 c4 ?_
    obtain ⟨a5, ea5, hw⟩ := wp_rq hw
    refine G.sure ea5 ?_
    refine G_iload_n dX8_choicesOf_30 rfl ?_
    refine G_iload dX8_choicesOf_31 rfl ?_
    obtain ⟨c8, hw⟩ := wp_ck hw
    refine G_callV (As := [.int l1, .int l4]) (s_X4_canLight hs a5 l1 l4 h _ (wp_cl hw)) ca_X4_canLight w_1020 w_1021 (ci := 4) rfl (by decide) w_1176 c8 (Nat.le_of_ble_eq_true rfl) (Nat.le_of_ble_eq_true rfl) rfl (Nat.le_of_ble_eq_true rfl) (Nat.le_of_ble_eq_true rfl) (Nat.le_of_ble_eq_true rfl) dX8_choicesOf_33 rfl (fun v h7 hq => ?_)
    obtain ⟨r6, rfl, hw⟩ := hq
    refine G.cse (cs' := (0, 0)) rfl ?_
    show GZ _ _ _ _ _ _ _ 36 _ (.int r6 :: []) _ _
    have hw := wp_if hw
    refine G_if_eq (tgt := 46) dX8_choicesOf_36 rfl (fun c9 => ?_) (fun c9 => ?_)
    · have hw := hw.1 c9
      refine G.less [some (.ref l0), some (.int l1), some (.int l2), some (.int l3), some (.int l4)] ⟨rfl, ⟨rfl, ⟨rfl, ⟨rfl, ⟨rfl, trivial⟩⟩⟩⟩⟩ ?_
      exact f_X8_choicesOf_46_ok hs hK_17 _ _ _ _ _ h7 Q hw
    · have hw := hw.2 c9
      refine G_iload_n dX8_choicesOf_39 rfl ?_
      refine G_iconst (v := (1 : Int32)) dX8_choicesOf_40 (by decide) ?_
      refine G_iload dX8_choicesOf_41 rfl ?_
      refine G_ishl dX8_choicesOf_43 ?_
      refine G_ior dX8_choicesOf_44 ?_
      refine G.topi fun v10 ev10 => ?_
      have hw := wp_bd hw v10 ev10
      refine G_istore_n (lv' := [some (.ref l0), some (.int l1), some (.int l2), some (.int v10), some (.int l4)]) dX8_choicesOf_45 (Nat.le_of_ble_eq_true rfl) rfl ?_
      refine G.less [some (.ref l0), some (.int l1), some (.int l2), some (.int v10), some (.int l4)] ⟨rfl, ⟨rfl, ⟨rfl, ⟨rfl, ⟨rfl, trivial⟩⟩⟩⟩⟩ ?_
      exact f_X8_choicesOf_46_ok hs hK_17 _ _ _ _ _ h7 Q hw
theorem f_X8_choicesOf_17_ok {Γ : GX} (hs : SF Γ) {N : Nat} : ∀ (n : Nat) (l0 : Nat) (l1 : Int32) (l2 : Int32) (l3 : Int32) (l4 : Int32) (h : PH) (Q : Int32 → PH → Prop), wp (f_X8_choicesOf_17 N n l0 l1 l2 l3 l4 h) Q → G Γ yX8_choicesOf cX8_choicesOf 5 (some .int) (3, 0, 0) 17 [some (.ref l0), some (.int l1), some (.int l2), some (.int l3), some (.int l4)] [] h (0, 0) (q_i Q)
  | 0, _, _, _, _, _, _, Q, hw => (wp_no hw).elim
  | n + 1, l0, l1, l2, l3, l4, h, Q, hw => f_X8_choicesOf_17_bok (N := N) hs (f_X8_choicesOf_17_ok (N := N) hs n) l0 l1 l2 l3 l4 h Q hw
set_option maxHeartbeats 4000000 in
set_option maxRecDepth 100000 in
theorem s_X8_choicesOf {Γ : GX} (hs : SF Γ) {N : Nat} (l0 : Nat) (l1 : Int32) (h : PH) (Q : Int32 → PH → Prop) (hw : wp (f_X8_choicesOf N l0 l1 h) Q) : Spec Γ yX8_choicesOf cX8_choicesOf 5 (some .int) (3, 0, 0) [.ref l0, .int l1] h (q_i Q) := by
  refine Spec.of (by decide) (Nat.le_of_ble_eq_true rfl) [some (.ref l0), some (.int l1), none, none, none] rfl ?_
  unfold f_X8_choicesOf at hw
  refine G_aload_n dX8_choicesOf_0 rfl ?_
  obtain ⟨c1, hw⟩ := wp_ck hw
  refine G_getR fl_X8_valley w_298 dX8_choicesOf_1 c1 ?_
  obtain ⟨a2, ea2, hw⟩ := wp_rq hw
  refine G.sure ea2 ?_
  obtain ⟨c3, hw⟩ := wp_ck hw
  refine G_getNR fl_X6_many w_429 dX8_choicesOf_4 c3 ?_
  obtain ⟨a4, ea4, hw⟩ := wp_rq hw
  refine G.sure ea4 ?_
  refine G_iconst (v := (0 : Int32)) dX8_choicesOf_7 (by decide) ?_
  obtain ⟨c5, hw⟩ := wp_ck hw
  obtain ⟨c6, hw⟩ := wp_ck hw
  refine G_ialoadK (k := 0) dX8_choicesOf_8 c5 (by decide) rfl c6 ?_
  refine G.topi fun v7 ev7 => ?_
  have hw := wp_bd hw v7 ev7
  refine G_istore_n (lv' := [some (.ref l0), some (.int l1), some (.int v7), none, none]) dX8_choicesOf_9 (Nat.le_of_ble_eq_true rfl) rfl ?_
  refine G_iconst (v := (1 : Int32)) dX8_choicesOf_10 (by decide) ?_
  refine G_iload_n dX8_choicesOf_11 rfl ?_
  refine G_ishl dX8_choicesOf_12 ?_
  refine G.topi fun v8 ev8 => ?_
  have hw := wp_bd hw v8 ev8
  refine G_istore_n (lv' := [some (.ref l0), some (.int l1), some (.int v7), some (.int v8), none]) dX8_choicesOf_13 (Nat.le_of_ble_eq_true rfl) rfl ?_
  refine G_iconst (v := (0 : Int32)) dX8_choicesOf_14 (by decide) ?_
  refine G_istore (lv' := [some (.ref l0), some (.int l1), some (.int v7), some (.int v8), some (.int (0 : Int32))]) dX8_choicesOf_15 (Nat.le_of_ble_eq_true rfl) rfl ?_
  refine G.less [some (.ref l0), some (.int l1), some (.int v7), some (.int v8), some (.int (0 : Int32))] ⟨rfl, ⟨rfl, ⟨rfl, ⟨rfl, ⟨rfl, trivial⟩⟩⟩⟩⟩ ?_
  exact f_X8_choicesOf_17_ok hs N _ _ _ _ _ h Q hw
set_option maxHeartbeats 4000000 in
set_option maxRecDepth 100000 in
theorem f_X6_fitsNone_2_bok {Γ : GX} (hs : SF Γ) {N : Nat} {K_2 : Nat → Int32 → Int32 → Int32 → PH → Option (Int32 × PH)} (hK_2 : ∀ (l0 : Nat) (l1 : Int32) (l2 : Int32) (l3 : Int32) (h : PH) (Q : Int32 → PH → Prop), wp (K_2 l0 l1 l2 l3 h) Q → G Γ yX6_fitsNone cX6_fitsNone 4 (some .boolean) (2, 0, 0) 2 [some (.ref l0), some (.int l1), some (.int l2), some (.int l3)] [] h (0, 0) (q_i Q)) (l0 : Nat) (l1 : Int32) (l2 : Int32) (l3 : Int32) (h : PH) (Q : Int32 → PH → Prop) (hw : wp (f_X6_fitsNone_2_b N K_2 l0 l1 l2 l3 h) Q) : G Γ yX6_fitsNone cX6_fitsNone 4 (some .boolean) (2, 0, 0) 2 [some (.ref l0), some (.int l1), some (.int l2), some (.int l3)] [] h (0, 0) (q_i Q) := by
  unfold f_X6_fitsNone_2_b at hw
  refine G_iload_n dX6_fitsNone_2 rfl ?_
  refine G_aload_n dX6_fitsNone_3 rfl ?_
  obtain ⟨c1, hw⟩ := wp_ck hw
  refine G_getR fl_X6_many w_426 dX6_fitsNone_4 c1 ?_
  obtain ⟨a2, ea2, hw⟩ := wp_rq hw
  refine G.sure ea2 ?_
  refine G_iconst (v := (3 : Int32)) dX6_fitsNone_7 (by decide) ?_
  obtain ⟨c3, hw⟩ := wp_ck hw
  obtain ⟨c4, hw⟩ := wp_ck hw
  refine G_ialoadK (k := 3) dX6_fitsNone_8 c3 (by decide) rfl c4 ?_
  have hw := wp_if hw
  refine G_icmp_ge (tgt := 30) dX6_fitsNone_9 rfl (fun c5 => ?_) (fun c5 => ?_)
  · have hw := hw.1 c5
    refine G_iconst (v := (1 : Int32)) dX6_fitsNone_30 (by decide) ?_
    exact G_zreturn rfl dX6_fitsNone_31 rfl ⟨_, rfl, wp_ret hw⟩
  · have hw := hw.2 c5
    refine G_aload_n dX6_fitsNone_12 rfl ?_
    refine G_iload_n dX6_fitsNone_13 rfl ?_
    refine G_iload_n dX6_fitsNone_14 rfl ?_
    refine G_iload_n dX6_fitsNone_15 rfl ?_
    refine G_callV (As := [.int l3, .int l1, .int l2]) (s_X6_fits hs l0 l3 l1 l2 h _ (wp_cl hw)) ca_X6_fits w_1008 w_1009 (ci := 6) rfl (by decide) w_1007 c1 (Nat.le_of_ble_eq_true rfl) (Nat.le_of_ble_eq_true rfl) rfl (Nat.le_of_ble_eq_true rfl) (Nat.le_of_ble_eq_true rfl) (Nat.le_of_ble_eq_true rfl) dX6_fitsNone_16 rfl (fun v h7 hq => ?_)
    obtain ⟨r6, rfl, hw⟩ := hq
    refine G.cse (cs' := (0, 0)) rfl ?_
    show GZ _ _ _ _ _ _ _ 19 _ (.int r6 :: []) _ _
    have hw := wp_if hw
    refine G_if_eq (tgt := 24) dX6_fitsNone_19 rfl (fun c8 => ?_) (fun c8 => ?_)
    · have hw := hw.1 c8
      obtain ⟨v9, ev9⟩ : ∃ z : Int32, z = l3 + (1 : Int32) := ⟨_, rfl⟩
      have hw := wp_bd hw v9 ev9
      refine G_iinc (v := v9) (lv' := [some (.ref l0), some (.int l1), some (.int l2), some (.int v9)]) dX6_fitsNone_24 rfl (by rw [ev9]; rfl) (Nat.le_of_ble_eq_true rfl) rfl ?_
      refine G_goto (tgt := 2) dX6_fitsNone_27 rfl ?_
      refine G.less [some (.ref l0), some (.int l1), some (.int l2), some (.int v9)] ⟨rfl, ⟨rfl, ⟨rfl, ⟨rfl, trivial⟩⟩⟩⟩ ?_
      exact hK_2 _ _ _ _ h7 Q hw
    · have hw := hw.2 c8
      refine G_iconst (v := (0 : Int32)) dX6_fitsNone_22 (by decide) ?_
      exact G_zreturn rfl dX6_fitsNone_23 rfl ⟨_, rfl, wp_ret hw⟩
theorem f_X6_fitsNone_2_ok {Γ : GX} (hs : SF Γ) {N : Nat} : ∀ (n : Nat) (l0 : Nat) (l1 : Int32) (l2 : Int32) (l3 : Int32) (h : PH) (Q : Int32 → PH → Prop), wp (f_X6_fitsNone_2 N n l0 l1 l2 l3 h) Q → G Γ yX6_fitsNone cX6_fitsNone 4 (some .boolean) (2, 0, 0) 2 [some (.ref l0), some (.int l1), some (.int l2), some (.int l3)] [] h (0, 0) (q_i Q)
  | 0, _, _, _, _, _, Q, hw => (wp_no hw).elim
  | n + 1, l0, l1, l2, l3, h, Q, hw => f_X6_fitsNone_2_bok (N := N) hs (f_X6_fitsNone_2_ok (N := N) hs n) l0 l1 l2 l3 h Q hw
set_option maxHeartbeats 4000000 in
set_option maxRecDepth 100000 in
theorem s_X6_fitsNone {Γ : GX} (hs : SF Γ) {N : Nat} (l0 : Nat) (l1 : Int32) (l2 : Int32) (h : PH) (Q : Int32 → PH → Prop) (hw : wp (f_X6_fitsNone N l0 l1 l2 h) Q) : Spec Γ yX6_fitsNone cX6_fitsNone 4 (some .boolean) (2, 0, 0) [.ref l0, .int l1, .int l2] h (q_i Q) := by
  refine Spec.of (by decide) (Nat.le_of_ble_eq_true rfl) [some (.ref l0), some (.int l1), some (.int l2), none] rfl ?_
  unfold f_X6_fitsNone at hw
  refine G_iconst (v := (0 : Int32)) dX6_fitsNone_0 (by decide) ?_
  refine G_istore_n (lv' := [some (.ref l0), some (.int l1), some (.int l2), some (.int (0 : Int32))]) dX6_fitsNone_1 (Nat.le_of_ble_eq_true rfl) rfl ?_
  refine G.less [some (.ref l0), some (.int l1), some (.int l2), some (.int (0 : Int32))] ⟨rfl, ⟨rfl, ⟨rfl, ⟨rfl, trivial⟩⟩⟩⟩ ?_
  exact f_X6_fitsNone_2_ok hs N _ _ _ _ h Q hw
set_option maxHeartbeats 4000000 in
set_option maxRecDepth 100000 in
theorem f_X2_agrees_116_ok {Γ : GX} (hs : SF Γ) {N : Nat} {K_3 : Nat → Nat → Int32 → Int32 → Int32 → Int32 → Int32 → PH → Option (Int32 × PH)} (hK_3 : ∀ (l0 : Nat) (l1 : Nat) (l2 : Int32) (l3 : Int32) (l4 : Int32) (l5 : Int32) (l6 : Int32) (h : PH) (Q : Int32 → PH → Prop), wp (K_3 l0 l1 l2 l3 l4 l5 l6 h) Q → G Γ yX2_agrees cX2_agrees 11 (some .boolean) (3, 0, 0) 3 [some (.ref l0), some (.ref l1), some (.int l2), some (.int l3), some (.int l4), some (.int l5), some (.int l6), none, none, none, none] [] h (0, 0) (q_i Q)) (l0 : Nat) (l1 : Nat) (l2 : Int32) (l3 : Int32) (l4 : Int32) (l5 : Int32) (l6 : Int32) (h : PH) (Q : Int32 → PH → Prop) (hw : wp (f_X2_agrees_116 N K_3 l0 l1 l2 l3 l4 l5 l6 h) Q) : G Γ yX2_agrees cX2_agrees 11 (some .boolean) (3, 0, 0) 116 [some (.ref l0), some (.ref l1), some (.int l2), some (.int l3), some (.int l4), some (.int l5), some (.int l6), none, none, none, none] [] h (0, 0) (q_i Q) := by
  unfold f_X2_agrees_116 at hw
  obtain ⟨v1, ev1⟩ : ∃ z : Int32, z = l6 + (1 : Int32) := ⟨_, rfl⟩
  have hw := wp_bd hw v1 ev1
  refine G_iinc (v := v1) (lv' := [some (.ref l0), some (.ref l1), some (.int l2), some (.int l3), some (.int l4), some (.int l5), some (.int v1), none, none, none, none]) dX2_agrees_116 rfl (by rw [ev1]; rfl) (Nat.le_of_ble_eq_true rfl) rfl ?_
  refine G_goto (tgt := 3) dX2_agrees_119 rfl ?_
  refine G.less [some (.ref l0), some (.ref l1), some (.int l2), some (.int l3), some (.int l4), some (.int l5), some (.int v1), none, none, none, none] ⟨rfl, ⟨rfl, ⟨rfl, ⟨rfl, ⟨rfl, ⟨rfl, ⟨rfl, trivial⟩⟩⟩⟩⟩⟩⟩ ?_
  exact hK_3 _ _ _ _ _ _ _ h Q hw
set_option maxHeartbeats 4000000 in
set_option maxRecDepth 100000 in
theorem f_X2_agrees_96_ok {Γ : GX} (hs : SF Γ) {N : Nat} {K_3 : Nat → Nat → Int32 → Int32 → Int32 → Int32 → Int32 → PH → Option (Int32 × PH)} (hK_3 : ∀ (l0 : Nat) (l1 : Nat) (l2 : Int32) (l3 : Int32) (l4 : Int32) (l5 : Int32) (l6 : Int32) (h : PH) (Q : Int32 → PH → Prop), wp (K_3 l0 l1 l2 l3 l4 l5 l6 h) Q → G Γ yX2_agrees cX2_agrees 11 (some .boolean) (3, 0, 0) 3 [some (.ref l0), some (.ref l1), some (.int l2), some (.int l3), some (.int l4), some (.int l5), some (.int l6), none, none, none, none] [] h (0, 0) (q_i Q)) (s0 : Int32) (l0 : Nat) (l1 : Nat) (l2 : Int32) (l3 : Int32) (l4 : Int32) (l5 : Int32) (l6 : Int32) (h : PH) (Q : Int32 → PH → Prop) (hw : wp (f_X2_agrees_96 N K_3 s0 l0 l1 l2 l3 l4 l5 l6 h) Q) : G Γ yX2_agrees cX2_agrees 11 (some .boolean) (3, 0, 0) 96 [some (.ref l0), some (.ref l1), some (.int l2), some (.int l3), some (.int l4), some (.int l5), some (.int l6), none, none, none, none] [.int s0] h (0, 0) (q_i Q) := by
  unfold f_X2_agrees_96 at hw
  refine G_istore (lv' := [some (.ref l0), some (.ref l1), some (.int l2), some (.int l3), some (.int l4), some (.int l5), some (.int l6), none, none, none, some (.int s0)]) dX2_agrees_96 (Nat.le_of_ble_eq_true rfl) rfl ?_
  refine G_aload_n dX2_agrees_98 rfl ?_
  obtain ⟨c1, hw⟩ := wp_ck hw
  refine G_getR fl_X2_readFlue w_261 dX2_agrees_99 c1 ?_
  obtain ⟨a2, ea2, hw⟩ := wp_rq hw
  refine G.sure ea2 ?_
  refine G_iload dX2_agrees_102 rfl ?_
  obtain ⟨c3, hw⟩ := wp_ck hw
  obtain ⟨c4, hw⟩ := wp_ck hw
  refine G_iaload dX2_agrees_104 c3 c4 ?_
  refine G_iload_n dX2_agrees_105 rfl ?_
  have hw := wp_if hw
  refine G_icmp_ne (tgt := 116) dX2_agrees_106 rfl (fun c5 => ?_) (fun c5 => ?_)
  · have hw := hw.2 c5
    refine G.less [some (.ref l0), some (.ref l1), some (.int l2), some (.int l3), some (.int l4), some (.int l5), some (.int l6), none, none, none, none] ⟨rfl, ⟨rfl, ⟨rfl, ⟨rfl, ⟨rfl, ⟨rfl, ⟨rfl, trivial⟩⟩⟩⟩⟩⟩⟩ ?_
    exact f_X2_agrees_116_ok hs hK_3 _ _ _ _ _ _ _ h Q hw
  · have hw := hw.1 c5
    refine G_iload dX2_agrees_109 rfl ?_
    have hw := wp_if hw
    refine G_if_ne (tgt := 116) dX2_agrees_111 rfl (fun c6 => ?_) (fun c6 => ?_)
    · have hw := hw.2 c6
      refine G.less [some (.ref l0), some (.ref l1), some (.int l2), some (.int l3), some (.int l4), some (.int l5), some (.int l6), none, none, none, none] ⟨rfl, ⟨rfl, ⟨rfl, ⟨rfl, ⟨rfl, ⟨rfl, ⟨rfl, trivial⟩⟩⟩⟩⟩⟩⟩ ?_
      exact f_X2_agrees_116_ok hs hK_3 _ _ _ _ _ _ _ h Q hw
    · have hw := hw.1 c6
      refine G_iconst (v := (0 : Int32)) dX2_agrees_114 (by decide) ?_
      exact G_zreturn rfl dX2_agrees_115 rfl ⟨_, rfl, wp_ret hw⟩
set_option maxHeartbeats 4000000 in
set_option maxRecDepth 100000 in
theorem f_X2_agrees_46_ok {Γ : GX} (hs : SF Γ) {N : Nat} {K_3 : Nat → Nat → Int32 → Int32 → Int32 → Int32 → Int32 → PH → Option (Int32 × PH)} (hK_3 : ∀ (l0 : Nat) (l1 : Nat) (l2 : Int32) (l3 : Int32) (l4 : Int32) (l5 : Int32) (l6 : Int32) (h : PH) (Q : Int32 → PH → Prop), wp (K_3 l0 l1 l2 l3 l4 l5 l6 h) Q → G Γ yX2_agrees cX2_agrees 11 (some .boolean) (3, 0, 0) 3 [some (.ref l0), some (.ref l1), some (.int l2), some (.int l3), some (.int l4), some (.int l5), some (.int l6), none, none, none, none] [] h (0, 0) (q_i Q)) (s0 : Int32) (l0 : Nat) (l1 : Nat) (l2 : Int32) (l3 : Int32) (l4 : Int32) (l5 : Int32) (l6 : Int32) (l7 : Int32) (l8 : Int32) (h : PH) (Q : Int32 → PH → Prop) (hw : wp (f_X2_agrees_46 N K_3 s0 l0 l1 l2 l3 l4 l5 l6 l7 l8 h) Q) : G Γ yX2_agrees cX2_agrees 11 (some .boolean) (3, 0, 0) 46 [some (.ref l0), some (.ref l1), some (.int l2), some (.int l3), some (.int l4), some (.int l5), some (.int l6), some (.int l7), some (.int l8), none, none] [.int s0] h (0, 0) (q_i Q) := by
  unfold f_X2_agrees_46 at hw
  refine G_istore (lv' := [some (.ref l0), some (.ref l1), some (.int l2), some (.int l3), some (.int l4), some (.int l5), some (.int l6), some (.int l7), some (.int l8), some (.int s0), none]) dX2_agrees_46 (Nat.le_of_ble_eq_true rfl) rfl ?_
  refine G_iload dX2_agrees_48 rfl ?_
  refine G_iconst (v := (2 : Int32)) dX2_agrees_50 (by decide) ?_
  have hw := wp_if hw
  refine G_icmp_ne (tgt := 69) dX2_agrees_51 rfl (fun c1 => ?_) (fun c1 => ?_)
  · have hw := hw.2 c1
    refine G_iload dX2_agrees_69 rfl ?_
    refine G_iconst (v := (-1 : Int32)) dX2_agrees_71 (by decide) ?_
    have hw := wp_if hw
    refine G_icmp_ne (tgt := 86) dX2_agrees_72 rfl (fun c2 => ?_) (fun c2 => ?_)
    · have hw := hw.2 c2
      refine G_aload_n dX2_agrees_86 rfl ?_
      refine G_iload dX2_agrees_87 rfl ?_
      refine G_iload dX2_agrees_89 rfl ?_
      refine G_iload dX2_agrees_91 rfl ?_
      obtain ⟨c5, hw⟩ := wp_ck hw
      refine G_callV (As := [.int l7, .int s0, .int l8]) (s_X6_fits hs l1 l7 s0 l8 h _ (wp_cl hw)) ca_X6_fits w_1008 w_1009 (ci := 6) rfl (by decide) w_1197 c5 (Nat.le_of_ble_eq_true rfl) (Nat.le_of_ble_eq_true rfl) rfl (Nat.le_of_ble_eq_true rfl) (Nat.le_of_ble_eq_true rfl) (Nat.le_of_ble_eq_true rfl) dX2_agrees_93 rfl (fun v h4 hq => ?_)
      obtain ⟨r3, rfl, hw⟩ := hq
      refine G.cse (cs' := (0, 0)) rfl ?_
      show GZ _ _ _ _ _ _ _ 96 _ (.int r3 :: []) _ _
      refine G.less [some (.ref l0), some (.ref l1), some (.int l2), some (.int l3), some (.int l4), some (.int l5), some (.int l6), none, none, none, none] ⟨rfl, ⟨rfl, ⟨rfl, ⟨rfl, ⟨rfl, ⟨rfl, ⟨rfl, trivial⟩⟩⟩⟩⟩⟩⟩ ?_
      exact f_X2_agrees_96_ok hs hK_3 _ _ _ _ _ _ _ _ h4 Q hw
    · have hw := hw.1 c2
      refine G_aload_n dX2_agrees_75 rfl ?_
      refine G_iload dX2_agrees_76 rfl ?_
      refine G_iload dX2_agrees_78 rfl ?_
      obtain ⟨c8, hw⟩ := wp_ck hw
      refine G_callV (As := [.int s0, .int l8]) (s_X6_fitsNone hs l1 s0 l8 h _ (wp_cl hw)) ca_X6_fitsNone w_1194 w_1195 (ci := 6) rfl (by decide) w_1193 c8 (Nat.le_of_ble_eq_true rfl) (Nat.le_of_ble_eq_true rfl) rfl (Nat.le_of_ble_eq_true rfl) (Nat.le_of_ble_eq_true rfl) (Nat.le_of_ble_eq_true rfl) dX2_agrees_80 rfl (fun v h7 hq => ?_)
      obtain ⟨r6, rfl, hw⟩ := hq
      refine G.cse (cs' := (0, 0)) rfl ?_
      show GZ _ _ _ _ _ _ _ 83 _ (.int r6 :: []) _ _
      refine G_goto (tgt := 96) dX2_agrees_83 rfl ?_
      refine G.less [some (.ref l0), some (.ref l1), some (.int l2), some (.int l3), some (.int l4), some (.int l5), some (.int l6), none, none, none, none] ⟨rfl, ⟨rfl, ⟨rfl, ⟨rfl, ⟨rfl, ⟨rfl, ⟨rfl, trivial⟩⟩⟩⟩⟩⟩⟩ ?_
      exact f_X2_agrees_96_ok hs hK_3 _ _ _ _ _ _ _ _ h7 Q hw
  · have hw := hw.1 c1
    refine G_iload dX2_agrees_54 rfl ?_
    refine G_iload dX2_agrees_56 rfl ?_
    have hw := wp_if hw
    refine G_icmp_ne (tgt := 65) dX2_agrees_58 rfl (fun c9 => ?_) (fun c9 => ?_)
    · have hw := hw.2 c9
      refine G_iconst (v := (0 : Int32)) dX2_agrees_65 (by decide) ?_
      refine G_goto (tgt := 96) dX2_agrees_66 rfl ?_
      refine G.less [some (.ref l0), some (.ref l1), some (.int l2), some (.int l3), some (.int l4), some (.int l5), some (.int l6), none, none, none, none] ⟨rfl, ⟨rfl, ⟨rfl, ⟨rfl, ⟨rfl, ⟨rfl, ⟨rfl, trivial⟩⟩⟩⟩⟩⟩⟩ ?_
      exact f_X2_agrees_96_ok hs hK_3 _ _ _ _ _ _ _ _ h Q hw
    · have hw := hw.1 c9
      refine G_iconst (v := (1 : Int32)) dX2_agrees_61 (by decide) ?_
      refine G_goto (tgt := 96) dX2_agrees_62 rfl ?_
      refine G.less [some (.ref l0), some (.ref l1), some (.int l2), some (.int l3), some (.int l4), some (.int l5), some (.int l6), none, none, none, none] ⟨rfl, ⟨rfl, ⟨rfl, ⟨rfl, ⟨rfl, ⟨rfl, ⟨rfl, trivial⟩⟩⟩⟩⟩⟩⟩ ?_
      exact f_X2_agrees_96_ok hs hK_3 _ _ _ _ _ _ _ _ h Q hw
set_option maxHeartbeats 4000000 in
set_option maxRecDepth 100000 in
theorem f_X2_agrees_3_bok {Γ : GX} (hs : SF Γ) {N : Nat} {K_3 : Nat → Nat → Int32 → Int32 → Int32 → Int32 → Int32 → PH → Option (Int32 × PH)} (hK_3 : ∀ (l0 : Nat) (l1 : Nat) (l2 : Int32) (l3 : Int32) (l4 : Int32) (l5 : Int32) (l6 : Int32) (h : PH) (Q : Int32 → PH → Prop), wp (K_3 l0 l1 l2 l3 l4 l5 l6 h) Q → G Γ yX2_agrees cX2_agrees 11 (some .boolean) (3, 0, 0) 3 [some (.ref l0), some (.ref l1), some (.int l2), some (.int l3), some (.int l4), some (.int l5), some (.int l6), none, none, none, none] [] h (0, 0) (q_i Q)) (l0 : Nat) (l1 : Nat) (l2 : Int32) (l3 : Int32) (l4 : Int32) (l5 : Int32) (l6 : Int32) (h : PH) (Q : Int32 → PH → Prop) (hw : wp (f_X2_agrees_3_b N K_3 l0 l1 l2 l3 l4 l5 l6 h) Q) : G Γ yX2_agrees cX2_agrees 11 (some .boolean) (3, 0, 0) 3 [some (.ref l0), some (.ref l1), some (.int l2), some (.int l3), some (.int l4), some (.int l5), some (.int l6), none, none, none, none] [] h (0, 0) (q_i Q) := by
  unfold f_X2_agrees_3_b at hw
  refine G_iload dX2_agrees_3 rfl ?_
  refine G_aload_n dX2_agrees_5 rfl ?_
  obtain ⟨c1, hw⟩ := wp_ck hw
  refine G_getI fl_X2_reads w_263 dX2_agrees_6 c1 ?_
  have hw := wp_if hw
  refine G_icmp_ge (tgt := 122) dX2_agrees_9 rfl (fun c2 => ?_) (fun c2 => ?_)
  · have hw := hw.1 c2
    refine G_iconst (v := (1 : Int32)) dX2_agrees_122 (by decide) ?_
    exact G_zreturn rfl dX2_agrees_123 rfl ⟨_, rfl, wp_ret hw⟩
  · have hw := hw.2 c2
    refine G_aload_n dX2_agrees_12 rfl ?_
    refine G_getR fl_X2_readSign w_262 dX2_agrees_13 c1 ?_
    obtain ⟨a3, ea3, hw⟩ := wp_rq hw
    refine G.sure ea3 ?_
    refine G_iload dX2_agrees_16 rfl ?_
    obtain ⟨c4, hw⟩ := wp_ck hw
    obtain ⟨c5, hw⟩ := wp_ck hw
    refine G_iaload dX2_agrees_18 c4 c5 ?_
    refine G.topi fun v6 ev6 => ?_
    have hw := wp_bd hw v6 ev6
    refine G_istore (lv' := [some (.ref l0), some (.ref l1), some (.int l2), some (.int l3), some (.int l4), some (.int l5), some (.int l6), some (.int v6), none, none, none]) dX2_agrees_19 (Nat.le_of_ble_eq_true rfl) rfl ?_
    refine G_aload_n dX2_agrees_21 rfl ?_
    obtain ⟨c7, hw⟩ := wp_ck hw
    refine G_getNR fl_X6_sights w_454 dX2_agrees_22 c7 ?_
    obtain ⟨a8, ea8, hw⟩ := wp_rq hw
    refine G.sure ea8 ?_
    refine G_aload_n dX2_agrees_25 rfl ?_
    refine G_getR fl_X2_readWatcher w_260 dX2_agrees_26 c1 ?_
    obtain ⟨a9, ea9, hw⟩ := wp_rq hw
    refine G.sure ea9 ?_
    refine G_iload dX2_agrees_29 rfl ?_
    obtain ⟨c10, hw⟩ := wp_ck hw
    obtain ⟨c11, hw⟩ := wp_ck hw
    refine G_iaload dX2_agrees_31 c10 c11 ?_
    obtain ⟨c12, hw⟩ := wp_ck hw
    obtain ⟨c13, hw⟩ := wp_ck hw
    refine G_iaload dX2_agrees_32 c12 c13 ?_
    refine G.topi fun v14 ev14 => ?_
    have hw := wp_bd hw v14 ev14
    refine G_istore (lv' := [some (.ref l0), some (.ref l1), some (.int l2), some (.int l3), some (.int l4), some (.int l5), some (.int l6), some (.int v6), some (.int v14), none, none]) dX2_agrees_33 (Nat.le_of_ble_eq_true rfl) rfl ?_
    refine G_iload dX2_agrees_35 rfl ?_
    have hw := wp_if hw
    refine G_if_ne (tgt := 44) dX2_agrees_37 rfl (fun c15 => ?_) (fun c15 => ?_)
    · have hw := hw.2 c15
      refine G_iload dX2_agrees_44 rfl ?_
      refine G.less [some (.ref l0), some (.ref l1), some (.int l2), some (.int l3), some (.int l4), some (.int l5), some (.int l6), some (.int v6), some (.int v14), none, none] ⟨rfl, ⟨rfl, ⟨rfl, ⟨rfl, ⟨rfl, ⟨rfl, ⟨rfl, ⟨rfl, ⟨rfl, trivial⟩⟩⟩⟩⟩⟩⟩⟩⟩ ?_
      exact f_X2_agrees_46_ok hs hK_3 _ _ _ _ _ _ _ _ _ _ h Q hw
    · have hw := hw.1 c15
      refine G_iload_n dX2_agrees_40 rfl ?_
      refine G_goto (tgt := 46) dX2_agrees_41 rfl ?_
      refine G.less [some (.ref l0), some (.ref l1), some (.int l2), some (.int l3), some (.int l4), some (.int l5), some (.int l6), some (.int v6), some (.int v14), none, none] ⟨rfl, ⟨rfl, ⟨rfl, ⟨rfl, ⟨rfl, ⟨rfl, ⟨rfl, ⟨rfl, ⟨rfl, trivial⟩⟩⟩⟩⟩⟩⟩⟩⟩ ?_
      exact f_X2_agrees_46_ok hs hK_3 _ _ _ _ _ _ _ _ _ _ h Q hw
theorem f_X2_agrees_3_ok {Γ : GX} (hs : SF Γ) {N : Nat} : ∀ (n : Nat) (l0 : Nat) (l1 : Nat) (l2 : Int32) (l3 : Int32) (l4 : Int32) (l5 : Int32) (l6 : Int32) (h : PH) (Q : Int32 → PH → Prop), wp (f_X2_agrees_3 N n l0 l1 l2 l3 l4 l5 l6 h) Q → G Γ yX2_agrees cX2_agrees 11 (some .boolean) (3, 0, 0) 3 [some (.ref l0), some (.ref l1), some (.int l2), some (.int l3), some (.int l4), some (.int l5), some (.int l6), none, none, none, none] [] h (0, 0) (q_i Q)
  | 0, _, _, _, _, _, _, _, _, Q, hw => (wp_no hw).elim
  | n + 1, l0, l1, l2, l3, l4, l5, l6, h, Q, hw => f_X2_agrees_3_bok (N := N) hs (f_X2_agrees_3_ok (N := N) hs n) l0 l1 l2 l3 l4 l5 l6 h Q hw
set_option maxHeartbeats 4000000 in
set_option maxRecDepth 100000 in
theorem s_X2_agrees {Γ : GX} (hs : SF Γ) {N : Nat} (l0 : Nat) (l1 : Nat) (l2 : Int32) (l3 : Int32) (l4 : Int32) (l5 : Int32) (h : PH) (Q : Int32 → PH → Prop) (hw : wp (f_X2_agrees N l0 l1 l2 l3 l4 l5 h) Q) : Spec Γ yX2_agrees cX2_agrees 11 (some .boolean) (3, 0, 0) [.ref l0, .ref l1, .int l2, .int l3, .int l4, .int l5] h (q_i Q) := by
  refine Spec.of (by decide) (Nat.le_of_ble_eq_true rfl) [some (.ref l0), some (.ref l1), some (.int l2), some (.int l3), some (.int l4), some (.int l5), none, none, none, none, none] rfl ?_
  unfold f_X2_agrees at hw
  refine G_iconst (v := (0 : Int32)) dX2_agrees_0 (by decide) ?_
  refine G_istore (lv' := [some (.ref l0), some (.ref l1), some (.int l2), some (.int l3), some (.int l4), some (.int l5), some (.int (0 : Int32)), none, none, none, none]) dX2_agrees_1 (Nat.le_of_ble_eq_true rfl) rfl ?_
  refine G.less [some (.ref l0), some (.ref l1), some (.int l2), some (.int l3), some (.int l4), some (.int l5), some (.int (0 : Int32)), none, none, none, none] ⟨rfl, ⟨rfl, ⟨rfl, ⟨rfl, ⟨rfl, ⟨rfl, ⟨rfl, trivial⟩⟩⟩⟩⟩⟩⟩ ?_
  exact f_X2_agrees_3_ok hs N _ _ _ _ _ _ _ h Q hw
set_option maxHeartbeats 4000000 in
set_option maxRecDepth 100000 in
theorem f_X8_look_207_ok {Γ : GX} (hs : SF Γ) {N : Nat} {K_148 : Nat → Int32 → PH → Option (Unit × PH)} (hK_148 : ∀ (l0 : Nat) (l5 : Int32) (h : PH) (Q : Unit → PH → Prop), wp (K_148 l0 l5 h) Q → G Γ yX8_look cX8_look 6 none (4, 0, 0) 148 [some (.ref l0), none, none, none, none, some (.int l5)] [] h (0, 0) (q_u Q)) (l0 : Nat) (l5 : Int32) (h : PH) (Q : Unit → PH → Prop) (hw : wp (f_X8_look_207 N K_148 l0 l5 h) Q) : G Γ yX8_look cX8_look 6 none (4, 0, 0) 207 [some (.ref l0), none, none, none, none, some (.int l5)] [] h (0, 0) (q_u Q) := by
  unfold f_X8_look_207 at hw
  obtain ⟨v1, ev1⟩ : ∃ z : Int32, z = l5 + (1 : Int32) := ⟨_, rfl⟩
  have hw := wp_bd hw v1 ev1
  refine G_iinc (v := v1) (lv' := [some (.ref l0), none, none, none, none, some (.int v1)]) dX8_look_207 rfl (by rw [ev1]; rfl) (Nat.le_of_ble_eq_true rfl) rfl ?_
  refine G_goto (tgt := 148) dX8_look_210 rfl ?_
  refine G.less [some (.ref l0), none, none, none, none, some (.int v1)] ⟨rfl, ⟨rfl, trivial⟩⟩ ?_
  exact hK_148 _ _ h Q hw
set_option maxHeartbeats 4000000 in
set_option maxRecDepth 100000 in
theorem f_X8_look_148_bok {Γ : GX} (hs : SF Γ) {N : Nat} {K_148 : Nat → Int32 → PH → Option (Unit × PH)} (hK_148 : ∀ (l0 : Nat) (l5 : Int32) (h : PH) (Q : Unit → PH → Prop), wp (K_148 l0 l5 h) Q → G Γ yX8_look cX8_look 6 none (4, 0, 0) 148 [some (.ref l0), none, none, none, none, some (.int l5)] [] h (0, 0) (q_u Q)) (l0 : Nat) (l5 : Int32) (h : PH) (Q : Unit → PH → Prop) (hw : wp (f_X8_look_148_b N K_148 l0 l5 h) Q) : G Γ yX8_look cX8_look 6 none (4, 0, 0) 148 [some (.ref l0), none, none, none, none, some (.int l5)] [] h (0, 0) (q_u Q) := by
  unfold f_X8_look_148_b at hw
  refine G_iload dX8_look_148 rfl ?_
  refine G_aload_n dX8_look_150 rfl ?_
  obtain ⟨c1, hw⟩ := wp_ck hw
  refine G_getI fl_X8_count w_302 dX8_look_151 c1 ?_
  have hw := wp_if hw
  refine G_icmp_ge (tgt := 213) dX8_look_154 rfl (fun c2 => ?_) (fun c2 => ?_)
  · have hw := hw.1 c2
    exact G_vreturn rfl dX8_look_213 ⟨rfl, wp_ret hw⟩
  · have hw := hw.2 c2
    refine G_aload_n dX8_look_157 rfl ?_
    refine G_getI fl_X8_ways w_304 dX8_look_158 c1 ?_
    refine G_iconst (v := (1 : Int32)) dX8_look_161 (by decide) ?_
    have hw := wp_if hw
    refine G_icmp_ne (tgt := 182) dX8_look_162 rfl (fun c3 => ?_) (fun c3 => ?_)
    · have hw := hw.2 c3
      refine G_aload_n dX8_look_182 rfl ?_
      refine G_getR fl_X8_same w_293 dX8_look_183 c1 ?_
      obtain ⟨a4, ea4, hw⟩ := wp_rq hw
      refine G.sure ea4 ?_
      refine G_iload dX8_look_186 rfl ?_
      obtain ⟨c5, hw⟩ := wp_ck hw
      obtain ⟨c6, hw⟩ := wp_ck hw
      refine G_iaload dX8_look_188 c5 c6 ?_
      refine G_aload_n dX8_look_189 rfl ?_
      refine G_getR fl_X8_chosen w_292 dX8_look_190 c1 ?_
      obtain ⟨a7, ea7, hw⟩ := wp_rq hw
      refine G.sure ea7 ?_
      refine G_iload dX8_look_193 rfl ?_
      obtain ⟨c8, hw⟩ := wp_ck hw
      obtain ⟨c9, hw⟩ := wp_ck hw
      refine G_iaload dX8_look_195 c8 c9 ?_
      have hw := wp_if hw
      refine G_icmp_eq (tgt := 207) dX8_look_196 rfl (fun c10 => ?_) (fun c10 => ?_)
      · have hw := hw.1 c10
        refine G.less [some (.ref l0), none, none, none, none, some (.int l5)] ⟨rfl, ⟨rfl, trivial⟩⟩ ?_
        exact f_X8_look_207_ok hs hK_148 _ _ h Q hw
      · have hw := hw.2 c10
        refine G_aload_n dX8_look_199 rfl ?_
        refine G_getR fl_X8_same w_293 dX8_look_200 c1 ?_
        obtain ⟨a11, ea11, hw⟩ := wp_rq hw
        refine G.sure ea11 ?_
        refine G_iload dX8_look_203 rfl ?_
        refine G_iconst (v := (-1 : Int32)) dX8_look_205 (by decide) ?_
        obtain ⟨c12, hw⟩ := wp_ck hw
        obtain ⟨c13, hw⟩ := wp_ck hw
        refine G_iastore dX8_look_206 c12 c13 ?_
        refine G.nmh fun h14 eh14 => ?_
        have hw := wp_bd hw h14 eh14
        refine G.less [some (.ref l0), none, none, none, none, some (.int l5)] ⟨rfl, ⟨rfl, trivial⟩⟩ ?_
        exact f_X8_look_207_ok hs hK_148 _ _ h14 Q hw
    · have hw := hw.1 c3
      refine G_aload_n dX8_look_165 rfl ?_
      refine G_getR fl_X8_same w_293 dX8_look_166 c1 ?_
      obtain ⟨a15, ea15, hw⟩ := wp_rq hw
      refine G.sure ea15 ?_
      refine G_iload dX8_look_169 rfl ?_
      refine G_aload_n dX8_look_171 rfl ?_
      refine G_getR fl_X8_chosen w_292 dX8_look_172 c1 ?_
      obtain ⟨a16, ea16, hw⟩ := wp_rq hw
      refine G.sure ea16 ?_
      refine G_iload dX8_look_175 rfl ?_
      obtain ⟨c17, hw⟩ := wp_ck hw
      obtain ⟨c18, hw⟩ := wp_ck hw
      refine G_iaload dX8_look_177 c17 c18 ?_
      obtain ⟨c19, hw⟩ := wp_ck hw
      obtain ⟨c20, hw⟩ := wp_ck hw
      refine G_iastore dX8_look_178 c19 c20 ?_
      refine G.nmh fun h21 eh21 => ?_
      have hw := wp_bd hw h21 eh21
      refine G_goto (tgt := 207) dX8_look_179 rfl ?_
      refine G.less [some (.ref l0), none, none, none, none, some (.int l5)] ⟨rfl, ⟨rfl, trivial⟩⟩ ?_
      exact f_X8_look_207_ok hs hK_148 _ _ h21 Q hw
theorem f_X8_look_148_ok {Γ : GX} (hs : SF Γ) {N : Nat} : ∀ (n : Nat) (l0 : Nat) (l5 : Int32) (h : PH) (Q : Unit → PH → Prop), wp (f_X8_look_148 N n l0 l5 h) Q → G Γ yX8_look cX8_look 6 none (4, 0, 0) 148 [some (.ref l0), none, none, none, none, some (.int l5)] [] h (0, 0) (q_u Q)
  | 0, _, _, _, Q, hw => (wp_no hw).elim
  | n + 1, l0, l5, h, Q, hw => f_X8_look_148_bok (N := N) hs (f_X8_look_148_ok (N := N) hs n) l0 l5 h Q hw
set_option maxHeartbeats 4000000 in
set_option maxRecDepth 100000 in
theorem f_X8_look_50_ok {Γ : GX} (hs : SF Γ) {N : Nat} (s0 : Int32) (l0 : Nat) (l1 : Int32) (l2 : Int32) (h : PH) (Q : Unit → PH → Prop) (hw : wp (f_X8_look_50 N s0 l0 l1 l2 h) Q) : G Γ yX8_look cX8_look 6 none (4, 0, 0) 50 [some (.ref l0), some (.int l1), some (.int l2), none, none, none] [.int s0] h (0, 0) (q_u Q) := by
  unfold f_X8_look_50 at hw
  refine G_istore (lv' := [some (.ref l0), some (.int l1), some (.int l2), none, some (.int s0), none]) dX8_look_50 (Nat.le_of_ble_eq_true rfl) rfl ?_
  refine G_aload_n dX8_look_52 rfl ?_
  refine G_dup dX8_look_53 rfl ?_
  obtain ⟨c1, hw⟩ := wp_ck hw
  refine G_getI fl_X8_ways w_304 dX8_look_54 c1 ?_
  refine G_iconst (v := (1 : Int32)) dX8_look_57 (by decide) ?_
  refine G_iadd dX8_look_58 ?_
  refine G_putI fl_X8_ways w_304 dX8_look_59 c1 ?_
  refine G.nmh fun h2 eh2 => ?_
  have hw := wp_bd hw h2 eh2
  refine G_aload_n dX8_look_62 rfl ?_
  obtain ⟨c3, hw⟩ := wp_ck hw
  refine G_getR fl_X8_darkSeen w_294 dX8_look_63 c3 ?_
  obtain ⟨a4, ea4, hw⟩ := wp_rq hw
  refine G.sure ea4 ?_
  refine G_iload_n dX8_look_66 rfl ?_
  refine G_dup2 dX8_look_67 rfl rfl ?_
  obtain ⟨c5, hw⟩ := wp_ck hw
  obtain ⟨c6, hw⟩ := wp_ck hw
  refine G_iaload dX8_look_68 c5 c6 ?_
  refine G_iconst (v := (1 : Int32)) dX8_look_69 (by decide) ?_
  refine G_iadd dX8_look_70 ?_
  refine G_iastore dX8_look_71 c5 c6 ?_
  refine G.nmh fun h7 eh7 => ?_
  have hw := wp_bd hw h7 eh7
  refine G_aload_n dX8_look_72 rfl ?_
  obtain ⟨c8, hw⟩ := wp_ck hw
  refine G_getR fl_X8_sweetSeen w_295 dX8_look_73 c8 ?_
  obtain ⟨a9, ea9, hw⟩ := wp_rq hw
  refine G.sure ea9 ?_
  refine G_iload_n dX8_look_76 rfl ?_
  refine G_dup2 dX8_look_77 rfl rfl ?_
  obtain ⟨c10, hw⟩ := wp_ck hw
  obtain ⟨c11, hw⟩ := wp_ck hw
  refine G_iaload dX8_look_78 c10 c11 ?_
  refine G_iconst (v := (1 : Int32)) dX8_look_79 (by decide) ?_
  refine G_iadd dX8_look_80 ?_
  refine G_iastore dX8_look_81 c10 c11 ?_
  refine G.nmh fun h12 eh12 => ?_
  have hw := wp_bd hw h12 eh12
  refine G_aload_n dX8_look_82 rfl ?_
  obtain ⟨c13, hw⟩ := wp_ck hw
  refine G_getR fl_X8_signSeen w_296 dX8_look_83 c13 ?_
  obtain ⟨a14, ea14, hw⟩ := wp_rq hw
  refine G.sure ea14 ?_
  refine G_iload dX8_look_86 rfl ?_
  refine G_dup2 dX8_look_88 rfl rfl ?_
  obtain ⟨c15, hw⟩ := wp_ck hw
  obtain ⟨c16, hw⟩ := wp_ck hw
  refine G_iaload dX8_look_89 c15 c16 ?_
  refine G_iconst (v := (1 : Int32)) dX8_look_90 (by decide) ?_
  refine G_iadd dX8_look_91 ?_
  refine G_iastore dX8_look_92 c15 c16 ?_
  refine G.nmh fun h17 eh17 => ?_
  have hw := wp_bd hw h17 eh17
  refine G_aload_n dX8_look_93 rfl ?_
  refine G_aload_n dX8_look_94 rfl ?_
  obtain ⟨c18, hw⟩ := wp_ck hw
  refine G_getI fl_X8_mostDark w_306 dX8_look_95 c18 ?_
  refine G_aload_n dX8_look_98 rfl ?_
  refine G_getR fl_X8_darkSeen w_294 dX8_look_99 c18 ?_
  obtain ⟨a19, ea19, hw⟩ := wp_rq hw
  refine G.sure ea19 ?_
  refine G_iload_n dX8_look_102 rfl ?_
  obtain ⟨c20, hw⟩ := wp_ck hw
  obtain ⟨c21, hw⟩ := wp_ck hw
  refine G_iaload dX8_look_103 c20 c21 ?_
  refine G_mmax w_1198 w_639 w_139 w_640 dX8_look_104 (Nat.le_of_ble_eq_true rfl) (Nat.le_of_ble_eq_true rfl) (Nat.le_of_ble_eq_true rfl) (Nat.le_of_ble_eq_true rfl) ?_
  refine G_putI fl_X8_mostDark w_306 dX8_look_107 c18 ?_
  refine G.nmh fun h22 eh22 => ?_
  have hw := wp_bd hw h22 eh22
  refine G_aload_n dX8_look_110 rfl ?_
  refine G_aload_n dX8_look_111 rfl ?_
  obtain ⟨c23, hw⟩ := wp_ck hw
  refine G_getI fl_X8_mostSweet w_308 dX8_look_112 c23 ?_
  refine G_aload_n dX8_look_115 rfl ?_
  refine G_getR fl_X8_sweetSeen w_295 dX8_look_116 c23 ?_
  obtain ⟨a24, ea24, hw⟩ := wp_rq hw
  refine G.sure ea24 ?_
  refine G_iload_n dX8_look_119 rfl ?_
  obtain ⟨c25, hw⟩ := wp_ck hw
  obtain ⟨c26, hw⟩ := wp_ck hw
  refine G_iaload dX8_look_120 c25 c26 ?_
  refine G_mmax w_1198 w_639 w_139 w_640 dX8_look_121 (Nat.le_of_ble_eq_true rfl) (Nat.le_of_ble_eq_true rfl) (Nat.le_of_ble_eq_true rfl) (Nat.le_of_ble_eq_true rfl) ?_
  refine G_putI fl_X8_mostSweet w_308 dX8_look_124 c23 ?_
  refine G.nmh fun h27 eh27 => ?_
  have hw := wp_bd hw h27 eh27
  refine G_aload_n dX8_look_127 rfl ?_
  refine G_aload_n dX8_look_128 rfl ?_
  obtain ⟨c28, hw⟩ := wp_ck hw
  refine G_getI fl_X8_mostSign w_310 dX8_look_129 c28 ?_
  refine G_aload_n dX8_look_132 rfl ?_
  refine G_getR fl_X8_signSeen w_296 dX8_look_133 c28 ?_
  obtain ⟨a29, ea29, hw⟩ := wp_rq hw
  refine G.sure ea29 ?_
  refine G_iload dX8_look_136 rfl ?_
  obtain ⟨c30, hw⟩ := wp_ck hw
  obtain ⟨c31, hw⟩ := wp_ck hw
  refine G_iaload dX8_look_138 c30 c31 ?_
  refine G_mmax w_1198 w_639 w_139 w_640 dX8_look_139 (Nat.le_of_ble_eq_true rfl) (Nat.le_of_ble_eq_true rfl) (Nat.le_of_ble_eq_true rfl) (Nat.le_of_ble_eq_true rfl) ?_
  refine G_putI fl_X8_mostSign w_310 dX8_look_142 c28 ?_
  refine G.nmh fun h32 eh32 => ?_
  have hw := wp_bd hw h32 eh32
  refine G_iconst (v := (0 : Int32)) dX8_look_145 (by decide) ?_
  refine G_istore (lv' := [some (.ref l0), some (.int l1), some (.int l2), none, some (.int s0), some (.int (0 : Int32))]) dX8_look_146 (Nat.le_of_ble_eq_true rfl) rfl ?_
  refine G.less [some (.ref l0), none, none, none, none, some (.int (0 : Int32))] ⟨rfl, ⟨rfl, trivial⟩⟩ ?_
  exact f_X8_look_148_ok hs N _ _ h32 Q hw
set_option maxHeartbeats 4000000 in
set_option maxRecDepth 100000 in
theorem f_X8_look_39_ok {Γ : GX} (hs : SF Γ) {N : Nat} (l0 : Nat) (l1 : Int32) (l2 : Int32) (l3 : Int32) (h : PH) (Q : Unit → PH → Prop) (hw : wp (f_X8_look_39 N l0 l1 l2 l3 h) Q) : G Γ yX8_look cX8_look 6 none (4, 0, 0) 39 [some (.ref l0), some (.int l1), some (.int l2), some (.int l3), none, none] [] h (0, 0) (q_u Q) := by
  unfold f_X8_look_39 at hw
  refine G_iload_n dX8_look_39 rfl ?_
  refine G_iconst (v := (-1 : Int32)) dX8_look_40 (by decide) ?_
  have hw := wp_if hw
  refine G_icmp_ne (tgt := 49) dX8_look_41 rfl (fun c1 => ?_) (fun c1 => ?_)
  · have hw := hw.2 c1
    refine G_iload_n dX8_look_49 rfl ?_
    refine G.less [some (.ref l0), some (.int l1), some (.int l2), none, none, none] ⟨rfl, ⟨rfl, ⟨rfl, trivial⟩⟩⟩ ?_
    exact f_X8_look_50_ok hs _ _ _ _ h Q hw
  · have hw := hw.1 c1
    refine G_bipush (v := (6 : Int32)) dX8_look_44 (by decide) ?_
    refine G_goto (tgt := 50) dX8_look_46 rfl ?_
    refine G.less [some (.ref l0), some (.int l1), some (.int l2), none, none, none] ⟨rfl, ⟨rfl, ⟨rfl, trivial⟩⟩⟩ ?_
    exact f_X8_look_50_ok hs _ _ _ _ h Q hw
set_option maxHeartbeats 4000000 in
set_option maxRecDepth 100000 in
theorem s_X8_look {Γ : GX} (hs : SF Γ) {N : Nat} (l0 : Nat) (l1 : Int32) (l2 : Int32) (h : PH) (Q : Unit → PH → Prop) (hw : wp (f_X8_look N l0 l1 l2 h) Q) : Spec Γ yX8_look cX8_look 6 none (4, 0, 0) [.ref l0, .int l1, .int l2] h (q_u Q) := by
  refine Spec.of (by decide) (Nat.le_of_ble_eq_true rfl) [some (.ref l0), some (.int l1), some (.int l2), none, none, none] rfl ?_
  unfold f_X8_look at hw
  refine G_aload_n dX8_look_0 rfl ?_
  obtain ⟨c1, hw⟩ := wp_ck hw
  refine G_getR fl_X8_valley w_298 dX8_look_1 c1 ?_
  obtain ⟨a2, ea2, hw⟩ := wp_rq hw
  refine G.sure ea2 ?_
  refine G_iload_n dX8_look_4 rfl ?_
  refine G_iload_n dX8_look_5 rfl ?_
  obtain ⟨c5, hw⟩ := wp_ck hw
  refine G_callV (As := [.int l1, .int l2]) (s_X6_signOf hs a2 l1 l2 h _ (wp_cl hw)) ca_X6_signOf w_1003 w_1004 (ci := 6) rfl (by decide) w_1188 c5 (Nat.le_of_ble_eq_true rfl) (Nat.le_of_ble_eq_true rfl) rfl (Nat.le_of_ble_eq_true rfl) (Nat.le_of_ble_eq_true rfl) (Nat.le_of_ble_eq_true rfl) dX8_look_6 rfl (fun v h4 hq => ?_)
  obtain ⟨r3, rfl, hw⟩ := hq
  refine G.cse (cs' := (0, 0)) rfl ?_
  show GZ _ _ _ _ _ _ _ 9 _ (.int r3 :: []) _ _
  refine G_istore_n (lv' := [some (.ref l0), some (.int l1), some (.int l2), some (.int r3), none, none]) dX8_look_9 (Nat.le_of_ble_eq_true rfl) rfl ?_
  refine G_aload_n dX8_look_10 rfl ?_
  obtain ⟨c6, hw⟩ := wp_ck hw
  refine G_getI fl_X8_minded w_300 dX8_look_11 c6 ?_
  have hw := wp_if hw
  refine G_if_eq (tgt := 39) dX8_look_14 rfl (fun c7 => ?_) (fun c7 => ?_)
  · have hw := hw.1 c7
    refine G.less [some (.ref l0), some (.int l1), some (.int l2), some (.int r3), none, none] ⟨rfl, ⟨rfl, ⟨rfl, ⟨rfl, trivial⟩⟩⟩⟩ ?_
    exact f_X8_look_39_ok hs _ _ _ _ h4 Q hw
  · have hw := hw.2 c7
    refine G_aload_n dX8_look_17 rfl ?_
    refine G_getR fl_X8_moment w_299 dX8_look_18 c6 ?_
    obtain ⟨a8, ea8, hw⟩ := wp_rq hw
    refine G.sure ea8 ?_
    refine G_aload_n dX8_look_21 rfl ?_
    refine G_getR fl_X8_valley w_298 dX8_look_22 c6 ?_
    obtain ⟨a9, ea9, hw⟩ := wp_rq hw
    refine G.sure ea9 ?_
    refine G_aload_n dX8_look_25 rfl ?_
    refine G_getI fl_X8_flue w_301 dX8_look_26 c6 ?_
    refine G_iload_n dX8_look_29 rfl ?_
    refine G_iload_n dX8_look_30 rfl ?_
    refine G_iload_n dX8_look_31 rfl ?_
    obtain ⟨c12, hw⟩ := wp_ck hw
    refine G_callV (As := [.ref a9, .int (hI h4 l0 10), .int l1, .int l2, .int r3]) (s_X2_agrees hs a8 a9 (hI h4 l0 10) l1 l2 r3 h4 _ (wp_cl hw)) ca_X2_agrees w_1190 w_1191 (ci := 2) rfl (by decide) w_1189 c12 (Nat.le_of_ble_eq_true rfl) (Nat.le_of_ble_eq_true rfl) rfl (Nat.le_of_ble_eq_true rfl) (Nat.le_of_ble_eq_true rfl) (Nat.le_of_ble_eq_true rfl) dX8_look_32 rfl (fun v h11 hq => ?_)
    obtain ⟨r10, rfl, hw⟩ := hq
    refine G.cse (cs' := (0, 0)) rfl ?_
    show GZ _ _ _ _ _ _ _ 35 _ (.int r10 :: []) _ _
    have hw := wp_if hw
    refine G_if_ne (tgt := 39) dX8_look_35 rfl (fun c13 => ?_) (fun c13 => ?_)
    · have hw := hw.2 c13
      refine G.less [some (.ref l0), some (.int l1), some (.int l2), some (.int r3), none, none] ⟨rfl, ⟨rfl, ⟨rfl, ⟨rfl, trivial⟩⟩⟩⟩ ?_
      exact f_X8_look_39_ok hs _ _ _ _ h11 Q hw
    · have hw := hw.1 c13
      exact G_vreturn rfl dX8_look_38 ⟨rfl, wp_ret hw⟩
set_option maxHeartbeats 4000000 in
set_option maxRecDepth 100000 in
theorem f_X8_choose_113_ok {Γ : GX} (hs : SF Γ) {d : Nat} {R_X8_choose : Nat → Int32 → Int32 → Int32 → PH → Option (Unit × PH)} (hR_X8_choose : ∀ (z0 : Nat) (z1 : Int32) (z2 : Int32) (z3 : Int32) (h : PH) (Q : Unit → PH → Prop), wp (R_X8_choose z0 z1 z2 z3 h) Q → Spec Γ yX8_choose cX8_choose 7 none (5 + d, 0, 0) [.ref z0, .int z1, .int z2, .int z3] h (q_u Q)) {N : Nat} {K_30 : Nat → Int32 → Int32 → Int32 → Int32 → PH → Option (Unit × PH)} (hK_30 : ∀ (l0 : Nat) (l1 : Int32) (l2 : Int32) (l3 : Int32) (l4 : Int32) (h : PH) (Q : Unit → PH → Prop), wp (K_30 l0 l1 l2 l3 l4 h) Q → G Γ yX8_choose cX8_choose 7 none (5 + (d + 1), 0, 0) 30 [some (.ref l0), some (.int l1), some (.int l2), some (.int l3), some (.int l4), none, none] [] h (0, 0) (q_u Q)) (l0 : Nat) (l1 : Int32) (l2 : Int32) (l3 : Int32) (l4 : Int32) (h : PH) (Q : Unit → PH → Prop) (hw : wp (f_X8_choose_113 R_X8_choose N K_30 l0 l1 l2 l3 l4 h) Q) : G Γ yX8_choose cX8_choose 7 none (5 + (d + 1), 0, 0) 113 [some (.ref l0), some (.int l1), some (.int l2), some (.int l3), some (.int l4), none, none] [] h (0, 0) (q_u Q) := by
  unfold f_X8_choose_113 at hw
  obtain ⟨v1, ev1⟩ : ∃ z : Int32, z = l4 + (1 : Int32) := ⟨_, rfl⟩
  have hw := wp_bd hw v1 ev1
  refine G_iinc (v := v1) (lv' := [some (.ref l0), some (.int l1), some (.int l2), some (.int l3), some (.int v1), none, none]) dX8_choose_113 rfl (by rw [ev1]; rfl) (Nat.le_of_ble_eq_true rfl) rfl ?_
  refine G_goto (tgt := 30) dX8_choose_116 rfl ?_
  refine G.less [some (.ref l0), some (.int l1), some (.int l2), some (.int l3), some (.int v1), none, none] ⟨rfl, ⟨rfl, ⟨rfl, ⟨rfl, ⟨rfl, trivial⟩⟩⟩⟩⟩ ?_
  exact hK_30 _ _ _ _ _ h Q hw
set_option maxHeartbeats 4000000 in
set_option maxRecDepth 100000 in
theorem f_X8_choose_30_bok {Γ : GX} (hs : SF Γ) {d : Nat} {R_X8_choose : Nat → Int32 → Int32 → Int32 → PH → Option (Unit × PH)} (hR_X8_choose : ∀ (z0 : Nat) (z1 : Int32) (z2 : Int32) (z3 : Int32) (h : PH) (Q : Unit → PH → Prop), wp (R_X8_choose z0 z1 z2 z3 h) Q → Spec Γ yX8_choose cX8_choose 7 none (5 + d, 0, 0) [.ref z0, .int z1, .int z2, .int z3] h (q_u Q)) {N : Nat} {K_30 : Nat → Int32 → Int32 → Int32 → Int32 → PH → Option (Unit × PH)} (hK_30 : ∀ (l0 : Nat) (l1 : Int32) (l2 : Int32) (l3 : Int32) (l4 : Int32) (h : PH) (Q : Unit → PH → Prop), wp (K_30 l0 l1 l2 l3 l4 h) Q → G Γ yX8_choose cX8_choose 7 none (5 + (d + 1), 0, 0) 30 [some (.ref l0), some (.int l1), some (.int l2), some (.int l3), some (.int l4), none, none] [] h (0, 0) (q_u Q)) (l0 : Nat) (l1 : Int32) (l2 : Int32) (l3 : Int32) (l4 : Int32) (h : PH) (Q : Unit → PH → Prop) (hw : wp (f_X8_choose_30_b R_X8_choose N K_30 l0 l1 l2 l3 l4 h) Q) : G Γ yX8_choose cX8_choose 7 none (5 + (d + 1), 0, 0) 30 [some (.ref l0), some (.int l1), some (.int l2), some (.int l3), some (.int l4), none, none] [] h (0, 0) (q_u Q) := by
  unfold f_X8_choose_30_b at hw
  refine G_iload dX8_choose_30 rfl ?_
  refine G_aload_n dX8_choose_32 rfl ?_
  obtain ⟨c1, hw⟩ := wp_ck hw
  refine G_getR fl_X8_valley w_298 dX8_choose_33 c1 ?_
  obtain ⟨a2, ea2, hw⟩ := wp_rq hw
  refine G.sure ea2 ?_
  obtain ⟨c3, hw⟩ := wp_ck hw
  refine G_getNR fl_X6_many w_429 dX8_choose_36 c3 ?_
  obtain ⟨a4, ea4, hw⟩ := wp_rq hw
  refine G.sure ea4 ?_
  refine G_iconst (v := (0 : Int32)) dX8_choose_39 (by decide) ?_
  obtain ⟨c5, hw⟩ := wp_ck hw
  obtain ⟨c6, hw⟩ := wp_ck hw
  refine G_ialoadK (k := 0) dX8_choose_40 c5 (by decide) rfl c6 ?_
  have hw := wp_if hw
  refine G_icmp_gt (tgt := 119) dX8_choose_41 rfl (fun c7 => ?_) (fun c7 => ?_)
  · have hw := hw.1 c7
    exact G_vreturn rfl dX8_choose_119 ⟨rfl, wp_ret hw⟩
  · have hw := hw.2 c7
    refine G_aload_n dX8_choose_44 rfl ?_
    refine G_getR fl_X8_choices w_291 dX8_choose_45 c1 ?_
    obtain ⟨a8, ea8, hw⟩ := wp_rq hw
    refine G.sure ea8 ?_
    refine G_iload_n dX8_choose_48 rfl ?_
    obtain ⟨c9, hw⟩ := wp_ck hw
    obtain ⟨c10, hw⟩ := wp_ck hw
    refine G_iaload dX8_choose_49 c9 c10 ?_
    refine G_iload dX8_choose_50 rfl ?_
    refine G_ishr dX8_choose_52 ?_
    refine G_iconst (v := (1 : Int32)) dX8_choose_53 (by decide) ?_
    refine G_iand dX8_choose_54 ?_
    have hw := wp_if hw
    refine G_if_eq (tgt := 113) dX8_choose_55 rfl (fun c11 => ?_) (fun c11 => ?_)
    · have hw := hw.1 c11
      refine G.less [some (.ref l0), some (.int l1), some (.int l2), some (.int l3), some (.int l4), none, none] ⟨rfl, ⟨rfl, ⟨rfl, ⟨rfl, ⟨rfl, trivial⟩⟩⟩⟩⟩ ?_
      exact f_X8_choose_113_ok hs hR_X8_choose hK_30 _ _ _ _ _ h Q hw
    · have hw := hw.2 c11
      refine G_aload_n dX8_choose_58 rfl ?_
      refine G_getR fl_X8_chosen w_292 dX8_choose_59 c1 ?_
      obtain ⟨a12, ea12, hw⟩ := wp_rq hw
      refine G.sure ea12 ?_
      refine G_iload_n dX8_choose_62 rfl ?_
      refine G_iload dX8_choose_63 rfl ?_
      obtain ⟨c13, hw⟩ := wp_ck hw
      obtain ⟨c14, hw⟩ := wp_ck hw
      refine G_iastore dX8_choose_65 c13 c14 ?_
      refine G.nmh fun h15 eh15 => ?_
      have hw := wp_bd hw h15 eh15
      refine G_aload_n dX8_choose_66 rfl ?_
      obtain ⟨c16, hw⟩ := wp_ck hw
      refine G_getR fl_X8_valley w_298 dX8_choose_67 c16 ?_
      obtain ⟨a17, ea17, hw⟩ := wp_rq hw
      refine G.sure ea17 ?_
      refine G_iload dX8_choose_70 rfl ?_
      refine G_aload_n dX8_choose_72 rfl ?_
      refine G_getI fl_X8_wind w_303 dX8_choose_73 c16 ?_
      refine G_iconst (v := (0 : Int32)) dX8_choose_76 (by decide) ?_
      obtain ⟨c20, hw⟩ := wp_ck hw
      refine G_callV (As := [.int l4, .int (hI h15 l0 12), .int (0 : Int32)]) (s_X6_fresh hs a17 l4 (hI h15 l0 12) (0 : Int32) h15 _ (wp_cl hw)) ca_X6_fresh w_1148 w_1149 (ci := 6) rfl (by decide) w_1199 c20 (by show 4 + 1 ≤ 5 + (d + 1); omega) (Nat.le_of_ble_eq_true rfl) rfl (Nat.le_of_ble_eq_true rfl) (Nat.le_of_ble_eq_true rfl) (Nat.le_of_ble_eq_true rfl) dX8_choose_77 rfl (fun v h19 hq => ?_)
      obtain ⟨r18, rfl, hw⟩ := hq
      refine G.cse (cs' := (0, 0)) rfl ?_
      show GZ _ _ _ _ _ _ _ 80 _ (.int r18 :: []) _ _
      refine G_istore (lv' := [some (.ref l0), some (.int l1), some (.int l2), some (.int l3), some (.int l4), some (.int r18), none]) dX8_choose_80 (Nat.le_of_ble_eq_true rfl) rfl ?_
      refine G_aload_n dX8_choose_82 rfl ?_
      obtain ⟨c21, hw⟩ := wp_ck hw
      refine G_getR fl_X8_valley w_298 dX8_choose_83 c21 ?_
      obtain ⟨a22, ea22, hw⟩ := wp_rq hw
      refine G.sure ea22 ?_
      refine G_iload dX8_choose_86 rfl ?_
      refine G_aload_n dX8_choose_88 rfl ?_
      refine G_getI fl_X8_wind w_303 dX8_choose_89 c21 ?_
      refine G_iconst (v := (1 : Int32)) dX8_choose_92 (by decide) ?_
      obtain ⟨c25, hw⟩ := wp_ck hw
      refine G_callV (As := [.int l4, .int (hI h19 l0 12), .int (1 : Int32)]) (s_X6_fresh hs a22 l4 (hI h19 l0 12) (1 : Int32) h19 _ (wp_cl hw)) ca_X6_fresh w_1148 w_1149 (ci := 6) rfl (by decide) w_1199 c25 (by show 4 + 1 ≤ 5 + (d + 1); omega) (Nat.le_of_ble_eq_true rfl) rfl (Nat.le_of_ble_eq_true rfl) (Nat.le_of_ble_eq_true rfl) (Nat.le_of_ble_eq_true rfl) dX8_choose_93 rfl (fun v h24 hq => ?_)
      obtain ⟨r23, rfl, hw⟩ := hq
      refine G.cse (cs' := (0, 0)) rfl ?_
      show GZ _ _ _ _ _ _ _ 96 _ (.int r23 :: []) _ _
      refine G_istore (lv' := [some (.ref l0), some (.int l1), some (.int l2), some (.int l3), some (.int l4), some (.int r18), some (.int r23)]) dX8_choose_96 (Nat.le_of_ble_eq_true rfl) rfl ?_
      refine G_aload_n dX8_choose_98 rfl ?_
      refine G_iload_n dX8_choose_99 rfl ?_
      refine G_iconst (v := (1 : Int32)) dX8_choose_100 (by decide) ?_
      refine G_iadd dX8_choose_101 ?_
      refine G_iload_n dX8_choose_102 rfl ?_
      refine G_iload dX8_choose_103 rfl ?_
      refine G_iadd dX8_choose_105 ?_
      refine G_iload_n dX8_choose_106 rfl ?_
      refine G_iload dX8_choose_107 rfl ?_
      refine G_iadd dX8_choose_109 ?_
      obtain ⟨c28, hw⟩ := wp_ck hw
      refine G_callV (As := [.int (l1 + (1 : Int32)), .int (l2 + r18), .int (l3 + r23)]) (hR_X8_choose l0 (l1 + (1 : Int32)) (l2 + r18) (l3 + r23) h24 _ (wp_cl hw)) ca_X8_choose w_1181 w_34 (ci := 8) rfl (by decide) w_1179 c28 (Nat.le_refl _) (Nat.le_of_ble_eq_true rfl) rfl (Nat.le_of_ble_eq_true rfl) (Nat.le_of_ble_eq_true rfl) (Nat.le_of_ble_eq_true rfl) dX8_choose_110 rfl (fun v h27 hq => ?_)
      obtain ⟨rfl, hw⟩ := hq
      refine G.cse (cs' := (0, 0)) rfl ?_
      show GZ _ _ _ _ _ _ _ 113 _ [] _ _
      refine G.less [some (.ref l0), some (.int l1), some (.int l2), some (.int l3), some (.int l4), none, none] ⟨rfl, ⟨rfl, ⟨rfl, ⟨rfl, ⟨rfl, trivial⟩⟩⟩⟩⟩ ?_
      exact f_X8_choose_113_ok hs hR_X8_choose hK_30 _ _ _ _ _ h27 Q hw
theorem f_X8_choose_30_ok {Γ : GX} (hs : SF Γ) {d : Nat} {R_X8_choose : Nat → Int32 → Int32 → Int32 → PH → Option (Unit × PH)} (hR_X8_choose : ∀ (z0 : Nat) (z1 : Int32) (z2 : Int32) (z3 : Int32) (h : PH) (Q : Unit → PH → Prop), wp (R_X8_choose z0 z1 z2 z3 h) Q → Spec Γ yX8_choose cX8_choose 7 none (5 + d, 0, 0) [.ref z0, .int z1, .int z2, .int z3] h (q_u Q)) {N : Nat} : ∀ (n : Nat) (l0 : Nat) (l1 : Int32) (l2 : Int32) (l3 : Int32) (l4 : Int32) (h : PH) (Q : Unit → PH → Prop), wp (f_X8_choose_30 R_X8_choose N n l0 l1 l2 l3 l4 h) Q → G Γ yX8_choose cX8_choose 7 none (5 + (d + 1), 0, 0) 30 [some (.ref l0), some (.int l1), some (.int l2), some (.int l3), some (.int l4), none, none] [] h (0, 0) (q_u Q)
  | 0, _, _, _, _, _, _, Q, hw => (wp_no hw).elim
  | n + 1, l0, l1, l2, l3, l4, h, Q, hw => f_X8_choose_30_bok (N := N) hs hR_X8_choose (f_X8_choose_30_ok (N := N) hs hR_X8_choose n) l0 l1 l2 l3 l4 h Q hw
set_option maxHeartbeats 4000000 in
set_option maxRecDepth 100000 in
theorem s_X8_choose_b {Γ : GX} (hs : SF Γ) {d : Nat} {R_X8_choose : Nat → Int32 → Int32 → Int32 → PH → Option (Unit × PH)} (hR_X8_choose : ∀ (z0 : Nat) (z1 : Int32) (z2 : Int32) (z3 : Int32) (h : PH) (Q : Unit → PH → Prop), wp (R_X8_choose z0 z1 z2 z3 h) Q → Spec Γ yX8_choose cX8_choose 7 none (5 + d, 0, 0) [.ref z0, .int z1, .int z2, .int z3] h (q_u Q)) {N : Nat} (l0 : Nat) (l1 : Int32) (l2 : Int32) (l3 : Int32) (h : PH) (Q : Unit → PH → Prop) (hw : wp (f_X8_choose_b R_X8_choose N l0 l1 l2 l3 h) Q) : Spec Γ yX8_choose cX8_choose 7 none (5 + (d + 1), 0, 0) [.ref l0, .int l1, .int l2, .int l3] h (q_u Q) := by
  refine Spec.of (by decide) (Nat.le_of_ble_eq_true rfl) [some (.ref l0), some (.int l1), some (.int l2), some (.int l3), none, none, none] rfl ?_
  unfold f_X8_choose_b at hw
  refine G_iload_n dX8_choose_0 rfl ?_
  refine G_aload_n dX8_choose_1 rfl ?_
  obtain ⟨c1, hw⟩ := wp_ck hw
  refine G_getI fl_X8_count w_302 dX8_choose_2 c1 ?_
  have hw := wp_if hw
  refine G_icmp_lt (tgt := 27) dX8_choose_5 rfl (fun c2 => ?_) (fun c2 => ?_)
  · have hw := hw.1 c2
    refine G_iconst (v := (0 : Int32)) dX8_choose_27 (by decide) ?_
    refine G_istore (lv' := [some (.ref l0), some (.int l1), some (.int l2), some (.int l3), some (.int (0 : Int32)), none, none]) dX8_choose_28 (Nat.le_of_ble_eq_true rfl) rfl ?_
    refine G.less [some (.ref l0), some (.int l1), some (.int l2), some (.int l3), some (.int (0 : Int32)), none, none] ⟨rfl, ⟨rfl, ⟨rfl, ⟨rfl, ⟨rfl, trivial⟩⟩⟩⟩⟩ ?_
    exact f_X8_choose_30_ok hs hR_X8_choose N _ _ _ _ _ h Q hw
  · have hw := hw.2 c2
    refine G_aload_n dX8_choose_8 rfl ?_
    refine G_iload_n dX8_choose_9 rfl ?_
    refine G_sipush (v := (999 : Int32)) dX8_choose_10 (by decide) ?_
    refine G_mmin w_1183 w_642 w_139 w_643 dX8_choose_13 (Nat.le_of_ble_eq_true rfl) (by show 0 + 1 ≤ 5 + (d + 1); omega) (Nat.le_of_ble_eq_true rfl) (Nat.le_of_ble_eq_true rfl) ?_
    refine G_iload_n dX8_choose_16 rfl ?_
    refine G_sipush (v := (999 : Int32)) dX8_choose_17 (by decide) ?_
    refine G_mmin w_1183 w_642 w_139 w_643 dX8_choose_20 (Nat.le_of_ble_eq_true rfl) (by show 0 + 1 ≤ 5 + (d + 1); omega) (Nat.le_of_ble_eq_true rfl) (Nat.le_of_ble_eq_true rfl) ?_
    refine G_callV (As := [.int (if (999 : Int32) < l2 then (999 : Int32) else l2), .int (if (999 : Int32) < l3 then (999 : Int32) else l3)]) (s_X8_look hs l0 (if (999 : Int32) < l2 then (999 : Int32) else l2) (if (999 : Int32) < l3 then (999 : Int32) else l3) h _ (wp_cl hw)) ca_X8_look w_1186 w_35 (ci := 8) rfl (by decide) w_1184 c1 (by show 4 + 1 ≤ 5 + (d + 1); omega) (Nat.le_of_ble_eq_true rfl) rfl (Nat.le_of_ble_eq_true rfl) (Nat.le_of_ble_eq_true rfl) (Nat.le_of_ble_eq_true rfl) dX8_choose_23 rfl (fun v h4 hq => ?_)
    obtain ⟨rfl, hw⟩ := hq
    refine G.cse (cs' := (0, 0)) rfl ?_
    show GZ _ _ _ _ _ _ _ 26 _ [] _ _
    exact G_vreturn rfl dX8_choose_26 ⟨rfl, wp_ret hw⟩
theorem s_X8_choose {Γ : GX} (hs : SF Γ) {N : Nat} : ∀ (d : Nat) (z0 : Nat) (z1 : Int32) (z2 : Int32) (z3 : Int32) (h : PH) (Q : Unit → PH → Prop), wp (f_X8_choose d N z0 z1 z2 z3 h) Q → Spec Γ yX8_choose cX8_choose 7 none (5 + d, 0, 0) [.ref z0, .int z1, .int z2, .int z3] h (q_u Q)
  | 0, _, _, _, _, _, Q, hw => (wp_no hw).elim
  | d + 1, z0, z1, z2, z3, h, Q, hw => s_X8_choose_b hs (s_X8_choose hs d) z0 z1 z2 z3 h Q hw
set_option maxHeartbeats 4000000 in
set_option maxRecDepth 100000 in
theorem f_X8_go_166_ok {Γ : GX} (hs : SF Γ) {N : Nat} {K_82 : Nat → Nat → Nat → Int32 → Int32 → Int32 → Int32 → PH → Option (Unit × PH)} (hK_82 : ∀ (l0 : Nat) (l1 : Nat) (l2 : Nat) (l3 : Int32) (l4 : Int32) (l5 : Int32) (l6 : Int32) (h : PH) (Q : Unit → PH → Prop), wp (K_82 l0 l1 l2 l3 l4 l5 l6 h) Q → G Γ yX8_go cX8_go 7 none (46, 0, 0) 82 [some (.ref l0), some (.ref l1), some (.ref l2), some (.int l3), some (.int l4), some (.int l5), some (.int l6)] [] h (0, 0) (q_u Q)) (l0 : Nat) (l1 : Nat) (l2 : Nat) (l3 : Int32) (l4 : Int32) (l5 : Int32) (l6 : Int32) (h : PH) (Q : Unit → PH → Prop) (hw : wp (f_X8_go_166 N K_82 l0 l1 l2 l3 l4 l5 l6 h) Q) : G Γ yX8_go cX8_go 7 none (46, 0, 0) 166 [some (.ref l0), some (.ref l1), some (.ref l2), some (.int l3), some (.int l4), some (.int l5), some (.int l6)] [] h (0, 0) (q_u Q) := by
  unfold f_X8_go_166 at hw
  obtain ⟨v1, ev1⟩ : ∃ z : Int32, z = l6 + (1 : Int32) := ⟨_, rfl⟩
  have hw := wp_bd hw v1 ev1
  refine G_iinc (v := v1) (lv' := [some (.ref l0), some (.ref l1), some (.ref l2), some (.int l3), some (.int l4), some (.int l5), some (.int v1)]) dX8_go_166 rfl (by rw [ev1]; rfl) (Nat.le_of_ble_eq_true rfl) rfl ?_
  refine G_goto (tgt := 82) dX8_go_169 rfl ?_
  refine G.less [some (.ref l0), some (.ref l1), some (.ref l2), some (.int l3), some (.int l4), some (.int l5), some (.int v1)] ⟨rfl, ⟨rfl, ⟨rfl, ⟨rfl, ⟨rfl, ⟨rfl, ⟨rfl, trivial⟩⟩⟩⟩⟩⟩⟩ ?_
  exact hK_82 _ _ _ _ _ _ _ h Q hw
set_option maxHeartbeats 4000000 in
set_option maxRecDepth 100000 in
theorem f_X8_go_155_ok {Γ : GX} (hs : SF Γ) {N : Nat} {K_82 : Nat → Nat → Nat → Int32 → Int32 → Int32 → Int32 → PH → Option (Unit × PH)} (hK_82 : ∀ (l0 : Nat) (l1 : Nat) (l2 : Nat) (l3 : Int32) (l4 : Int32) (l5 : Int32) (l6 : Int32) (h : PH) (Q : Unit → PH → Prop), wp (K_82 l0 l1 l2 l3 l4 l5 l6 h) Q → G Γ yX8_go cX8_go 7 none (46, 0, 0) 82 [some (.ref l0), some (.ref l1), some (.ref l2), some (.int l3), some (.int l4), some (.int l5), some (.int l6)] [] h (0, 0) (q_u Q)) (s0 : Int32) (s1 : Int32) (s2 : Nat) (l0 : Nat) (l1 : Nat) (l2 : Nat) (l3 : Int32) (l4 : Int32) (l5 : Int32) (l6 : Int32) (h : PH) (Q : Unit → PH → Prop) (hw : wp (f_X8_go_155 N K_82 s0 s1 s2 l0 l1 l2 l3 l4 l5 l6 h) Q) : G Γ yX8_go cX8_go 7 none (46, 0, 0) 155 [some (.ref l0), some (.ref l1), some (.ref l2), some (.int l3), some (.int l4), some (.int l5), some (.int l6)] [.int s0, .int s1, .ref s2] h (0, 0) (q_u Q) := by
  unfold f_X8_go_155 at hw
  obtain ⟨c1, hw⟩ := wp_ck hw
  obtain ⟨c2, hw⟩ := wp_ck hw
  refine G_iastore dX8_go_155 c1 c2 ?_
  refine G.nmh fun h3 eh3 => ?_
  have hw := wp_bd hw h3 eh3
  refine G_aload_n dX8_go_156 rfl ?_
  refine G_dup dX8_go_157 rfl ?_
  obtain ⟨c4, hw⟩ := wp_ck hw
  refine G_getI fl_X8_count w_302 dX8_go_158 c4 ?_
  refine G_iconst (v := (1 : Int32)) dX8_go_161 (by decide) ?_
  refine G_iadd dX8_go_162 ?_
  refine G_putI fl_X8_count w_302 dX8_go_163 c4 ?_
  refine G.nmh fun h5 eh5 => ?_
  have hw := wp_bd hw h5 eh5
  refine G.less [some (.ref l0), some (.ref l1), some (.ref l2), some (.int l3), some (.int l4), some (.int l5), some (.int l6)] ⟨rfl, ⟨rfl, ⟨rfl, ⟨rfl, ⟨rfl, ⟨rfl, ⟨rfl, trivial⟩⟩⟩⟩⟩⟩⟩ ?_
  exact f_X8_go_166_ok hs hK_82 _ _ _ _ _ _ _ h5 Q hw
set_option maxHeartbeats 4000000 in
set_option maxRecDepth 100000 in
theorem f_X8_go_82_bok {Γ : GX} (hs : SF Γ) {N : Nat} {K_82 : Nat → Nat → Nat → Int32 → Int32 → Int32 → Int32 → PH → Option (Unit × PH)} (hK_82 : ∀ (l0 : Nat) (l1 : Nat) (l2 : Nat) (l3 : Int32) (l4 : Int32) (l5 : Int32) (l6 : Int32) (h : PH) (Q : Unit → PH → Prop), wp (K_82 l0 l1 l2 l3 l4 l5 l6 h) Q → G Γ yX8_go cX8_go 7 none (46, 0, 0) 82 [some (.ref l0), some (.ref l1), some (.ref l2), some (.int l3), some (.int l4), some (.int l5), some (.int l6)] [] h (0, 0) (q_u Q)) (l0 : Nat) (l1 : Nat) (l2 : Nat) (l3 : Int32) (l4 : Int32) (l5 : Int32) (l6 : Int32) (h : PH) (Q : Unit → PH → Prop) (hw : wp (f_X8_go_82_b N K_82 l0 l1 l2 l3 l4 l5 l6 h) Q) : G Γ yX8_go cX8_go 7 none (46, 0, 0) 82 [some (.ref l0), some (.ref l1), some (.ref l2), some (.int l3), some (.int l4), some (.int l5), some (.int l6)] [] h (0, 0) (q_u Q) := by
  unfold f_X8_go_82_b at hw
  refine G_iload dX8_go_82 rfl ?_
  refine G_aload_n dX8_go_84 rfl ?_
  obtain ⟨c1, hw⟩ := wp_ck hw
  refine G_getNR fl_X6_many w_429 dX8_go_85 c1 ?_
  obtain ⟨a2, ea2, hw⟩ := wp_rq hw
  refine G.sure ea2 ?_
  refine G_iconst (v := (2 : Int32)) dX8_go_88 (by decide) ?_
  obtain ⟨c3, hw⟩ := wp_ck hw
  obtain ⟨c4, hw⟩ := wp_ck hw
  refine G_ialoadK (k := 2) dX8_go_89 c3 (by decide) rfl c4 ?_
  have hw := wp_if hw
  refine G_icmp_ge (tgt := 172) dX8_go_90 rfl (fun c5 => ?_) (fun c5 => ?_)
  · have hw := hw.1 c5
    refine G_aload_n dX8_go_172 rfl ?_
    refine G_iload_n dX8_go_173 rfl ?_
    refine G_callV (As := [.int l3]) (s_X6_housesAt hs l1 l3 h _ (wp_cl hw)) ca_X6_housesAt w_967 w_968 (ci := 6) rfl (by decide) w_1177 c1 (Nat.le_of_ble_eq_true rfl) (Nat.le_of_ble_eq_true rfl) rfl (Nat.le_of_ble_eq_true rfl) (Nat.le_of_ble_eq_true rfl) (Nat.le_of_ble_eq_true rfl) dX8_go_174 rfl (fun v h7 hq => ?_)
    obtain ⟨r6, rfl, hw⟩ := hq
    refine G.cse (cs' := (0, 0)) rfl ?_
    show GZ _ _ _ _ _ _ _ 177 _ (.int r6 :: []) _ _
    refine G_istore (lv' := [some (.ref l0), some (.ref l1), some (.ref l2), some (.int l3), some (.int l4), some (.int l5), some (.int r6)]) dX8_go_177 (Nat.le_of_ble_eq_true rfl) rfl ?_
    refine G_aload_n dX8_go_179 rfl ?_
    refine G_iconst (v := (0 : Int32)) dX8_go_180 (by decide) ?_
    refine G_aload_n dX8_go_181 rfl ?_
    obtain ⟨c8, hw⟩ := wp_ck hw
    refine G_getNR fl_X2_state w_256 dX8_go_182 c8 ?_
    obtain ⟨a9, ea9, hw⟩ := wp_rq hw
    refine G.sure ea9 ?_
    refine G_aload_n dX8_go_185 rfl ?_
    refine G_iload dX8_go_186 rfl ?_
    refine G_iconst (v := (0 : Int32)) dX8_go_188 (by decide) ?_
    obtain ⟨c12, hw⟩ := wp_ck hw
    refine G_callV (As := [.ref l1, .int r6, .int (0 : Int32)]) (s_X4_smoke hs a9 l1 r6 (0 : Int32) h7 _ (wp_cl hw)) ca_X4_smoke w_971 w_972 (ci := 4) rfl (by decide) w_1178 c12 (Nat.le_of_ble_eq_true rfl) (Nat.le_of_ble_eq_true rfl) rfl (Nat.le_of_ble_eq_true rfl) (Nat.le_of_ble_eq_true rfl) (Nat.le_of_ble_eq_true rfl) dX8_go_189 rfl (fun v h11 hq => ?_)
    obtain ⟨r10, rfl, hw⟩ := hq
    refine G.cse (cs' := (0, 0)) rfl ?_
    show GZ _ _ _ _ _ _ _ 192 _ (.int r10 :: [.int (0 : Int32), .ref l0]) _ _
    refine G_aload_n dX8_go_192 rfl ?_
    obtain ⟨c13, hw⟩ := wp_ck hw
    refine G_getNR fl_X2_state w_256 dX8_go_193 c13 ?_
    obtain ⟨a14, ea14, hw⟩ := wp_rq hw
    refine G.sure ea14 ?_
    refine G_aload_n dX8_go_196 rfl ?_
    refine G_iload dX8_go_197 rfl ?_
    refine G_iconst (v := (1 : Int32)) dX8_go_199 (by decide) ?_
    obtain ⟨c17, hw⟩ := wp_ck hw
    refine G_callV (As := [.ref l1, .int r6, .int (1 : Int32)]) (s_X4_smoke hs a14 l1 r6 (1 : Int32) h11 _ (wp_cl hw)) ca_X4_smoke w_971 w_972 (ci := 4) rfl (by decide) w_1178 c17 (Nat.le_of_ble_eq_true rfl) (Nat.le_of_ble_eq_true rfl) rfl (Nat.le_of_ble_eq_true rfl) (Nat.le_of_ble_eq_true rfl) (Nat.le_of_ble_eq_true rfl) dX8_go_200 rfl (fun v h16 hq => ?_)
    obtain ⟨r15, rfl, hw⟩ := hq
    refine G.cse (cs' := (0, 0)) rfl ?_
    show GZ _ _ _ _ _ _ _ 203 _ (.int r15 :: [.int r10, .int (0 : Int32), .ref l0]) _ _
    obtain ⟨c20, hw⟩ := wp_ck hw
    refine G_callV (As := [.int (0 : Int32), .int r10, .int r15]) (s_X8_choose hs 40 l0 (0 : Int32) r10 r15 h16 _ (wp_cl hw)) ca_X8_choose w_1181 w_34 (ci := 8) rfl (by decide) w_1179 c20 (Nat.le_of_ble_eq_true rfl) (Nat.le_of_ble_eq_true rfl) rfl (Nat.le_of_ble_eq_true rfl) (Nat.le_of_ble_eq_true rfl) (Nat.le_of_ble_eq_true rfl) dX8_go_203 rfl (fun v h19 hq => ?_)
    obtain ⟨rfl, hw⟩ := hq
    refine G.cse (cs' := (0, 0)) rfl ?_
    show GZ _ _ _ _ _ _ _ 206 _ [] _ _
    exact G_vreturn rfl dX8_go_206 ⟨rfl, wp_ret hw⟩
  · have hw := hw.2 c5
    refine G_aload_n dX8_go_93 rfl ?_
    refine G_getNR fl_X6_houseFlue w_443 dX8_go_94 c1 ?_
    obtain ⟨a21, ea21, hw⟩ := wp_rq hw
    refine G.sure ea21 ?_
    refine G_iload dX8_go_97 rfl ?_
    obtain ⟨c22, hw⟩ := wp_ck hw
    obtain ⟨c23, hw⟩ := wp_ck hw
    refine G_iaload dX8_go_99 c22 c23 ?_
    refine G_iload_n dX8_go_100 rfl ?_
    have hw := wp_if hw
    refine G_icmp_ne (tgt := 166) dX8_go_101 rfl (fun c24 => ?_) (fun c24 => ?_)
    · have hw := hw.2 c24
      refine G.less [some (.ref l0), some (.ref l1), some (.ref l2), some (.int l3), some (.int l4), some (.int l5), some (.int l6)] ⟨rfl, ⟨rfl, ⟨rfl, ⟨rfl, ⟨rfl, ⟨rfl, ⟨rfl, trivial⟩⟩⟩⟩⟩⟩⟩ ?_
      exact f_X8_go_166_ok hs hK_82 _ _ _ _ _ _ _ h Q hw
    · have hw := hw.1 c24
      refine G_aload_n dX8_go_104 rfl ?_
      obtain ⟨c25, hw⟩ := wp_ck hw
      refine G_getNR fl_X2_state w_256 dX8_go_105 c25 ?_
      obtain ⟨a26, ea26, hw⟩ := wp_rq hw
      refine G.sure ea26 ?_
      refine G_iload dX8_go_108 rfl ?_
      obtain ⟨c29, hw⟩ := wp_ck hw
      refine G_callV (As := [.int l6]) (s_X4_burns hs a26 l6 h _ (wp_cl hw)) ca_X4_burns w_1024 w_1025 (ci := 4) rfl (by decide) w_1171 c29 (Nat.le_of_ble_eq_true rfl) (Nat.le_of_ble_eq_true rfl) rfl (Nat.le_of_ble_eq_true rfl) (Nat.le_of_ble_eq_true rfl) (Nat.le_of_ble_eq_true rfl) dX8_go_110 rfl (fun v h28 hq => ?_)
      obtain ⟨r27, rfl, hw⟩ := hq
      refine G.cse (cs' := (0, 0)) rfl ?_
      show GZ _ _ _ _ _ _ _ 113 _ (.int r27 :: []) _ _
      have hw := wp_if hw
      refine G_if_ne (tgt := 166) dX8_go_113 rfl (fun c30 => ?_) (fun c30 => ?_)
      · have hw := hw.2 c30
        refine G.less [some (.ref l0), some (.ref l1), some (.ref l2), some (.int l3), some (.int l4), some (.int l5), some (.int l6)] ⟨rfl, ⟨rfl, ⟨rfl, ⟨rfl, ⟨rfl, ⟨rfl, ⟨rfl, trivial⟩⟩⟩⟩⟩⟩⟩ ?_
        exact f_X8_go_166_ok hs hK_82 _ _ _ _ _ _ _ h28 Q hw
      · have hw := hw.1 c30
        refine G_aload_n dX8_go_116 rfl ?_
        obtain ⟨c31, hw⟩ := wp_ck hw
        refine G_getR fl_X8_houses w_290 dX8_go_117 c31 ?_
        obtain ⟨a32, ea32, hw⟩ := wp_rq hw
        refine G.sure ea32 ?_
        refine G_aload_n dX8_go_120 rfl ?_
        refine G_getI fl_X8_count w_302 dX8_go_121 c31 ?_
        refine G_iload dX8_go_124 rfl ?_
        obtain ⟨c33, hw⟩ := wp_ck hw
        obtain ⟨c34, hw⟩ := wp_ck hw
        refine G_iastore dX8_go_126 c33 c34 ?_
        refine G.nmh fun h35 eh35 => ?_
        have hw := wp_bd hw h35 eh35
        refine G_aload_n dX8_go_127 rfl ?_
        obtain ⟨c36, hw⟩ := wp_ck hw
        refine G_getR fl_X8_choices w_291 dX8_go_128 c36 ?_
        obtain ⟨a37, ea37, hw⟩ := wp_rq hw
        refine G.sure ea37 ?_
        refine G_aload_n dX8_go_131 rfl ?_
        refine G_getI fl_X8_count w_302 dX8_go_132 c36 ?_
        refine G_iload dX8_go_135 rfl ?_
        refine G_iload dX8_go_137 rfl ?_
        have hw := wp_if hw
        refine G_icmp_ne (tgt := 149) dX8_go_139 rfl (fun c38 => ?_) (fun c38 => ?_)
        · have hw := hw.2 c38
          refine G_aload_n dX8_go_149 rfl ?_
          refine G_iload dX8_go_150 rfl ?_
          refine G_callV (As := [.int l6]) (s_X8_choicesOf hs l0 l6 h35 _ (wp_cl hw)) ca_X8_choicesOf w_1174 w_33 (ci := 8) rfl (by decide) w_1172 c36 (Nat.le_of_ble_eq_true rfl) (Nat.le_of_ble_eq_true rfl) rfl (Nat.le_of_ble_eq_true rfl) (Nat.le_of_ble_eq_true rfl) (Nat.le_of_ble_eq_true rfl) dX8_go_152 rfl (fun v h40 hq => ?_)
          obtain ⟨r39, rfl, hw⟩ := hq
          refine G.cse (cs' := (0, 0)) rfl ?_
          show GZ _ _ _ _ _ _ _ 155 _ (.int r39 :: [.int (hI h35 l0 11), .ref a37]) _ _
          refine G.less [some (.ref l0), some (.ref l1), some (.ref l2), some (.int l3), some (.int l4), some (.int l5), some (.int l6)] ⟨rfl, ⟨rfl, ⟨rfl, ⟨rfl, ⟨rfl, ⟨rfl, ⟨rfl, trivial⟩⟩⟩⟩⟩⟩⟩ ?_
          exact f_X8_go_155_ok hs hK_82 _ _ _ _ _ _ _ _ _ _ h40 Q hw
        · have hw := hw.1 c38
          refine G_iconst (v := (1 : Int32)) dX8_go_142 (by decide) ?_
          refine G_iload dX8_go_143 rfl ?_
          refine G_ishl dX8_go_145 ?_
          refine G_goto (tgt := 155) dX8_go_146 rfl ?_
          refine G.less [some (.ref l0), some (.ref l1), some (.ref l2), some (.int l3), some (.int l4), some (.int l5), some (.int l6)] ⟨rfl, ⟨rfl, ⟨rfl, ⟨rfl, ⟨rfl, ⟨rfl, ⟨rfl, trivial⟩⟩⟩⟩⟩⟩⟩ ?_
          exact f_X8_go_155_ok hs hK_82 _ _ _ _ _ _ _ _ _ _ h35 Q hw
theorem f_X8_go_82_ok {Γ : GX} (hs : SF Γ) {N : Nat} : ∀ (n : Nat) (l0 : Nat) (l1 : Nat) (l2 : Nat) (l3 : Int32) (l4 : Int32) (l5 : Int32) (l6 : Int32) (h : PH) (Q : Unit → PH → Prop), wp (f_X8_go_82 N n l0 l1 l2 l3 l4 l5 l6 h) Q → G Γ yX8_go cX8_go 7 none (46, 0, 0) 82 [some (.ref l0), some (.ref l1), some (.ref l2), some (.int l3), some (.int l4), some (.int l5), some (.int l6)] [] h (0, 0) (q_u Q)
  | 0, _, _, _, _, _, _, _, _, Q, hw => (wp_no hw).elim
  | n + 1, l0, l1, l2, l3, l4, l5, l6, h, Q, hw => f_X8_go_82_bok (N := N) hs (f_X8_go_82_ok (N := N) hs n) l0 l1 l2 l3 l4 l5 l6 h Q hw
set_option maxHeartbeats 4000000 in
set_option maxRecDepth 100000 in
theorem s_X8_go {Γ : GX} (hs : SF Γ) {N : Nat} (l0 : Nat) (l1 : Nat) (l2 : Nat) (l3 : Int32) (l4 : Int32) (l5 : Int32) (h : PH) (Q : Unit → PH → Prop) (hw : wp (f_X8_go N l0 l1 l2 l3 l4 l5 h) Q) : Spec Γ yX8_go cX8_go 7 none (46, 0, 0) [.ref l0, .ref l1, .ref l2, .int l3, .int l4, .int l5] h (q_u Q) := by
  refine Spec.of (by decide) (Nat.le_of_ble_eq_true rfl) [some (.ref l0), some (.ref l1), some (.ref l2), some (.int l3), some (.int l4), some (.int l5), none] rfl ?_
  unfold f_X8_go at hw
  refine G_aload_n dX8_go_0 rfl ?_
  refine G_aload_n dX8_go_1 rfl ?_
  obtain ⟨c1, hw⟩ := wp_ck hw
  refine G_putR (v := (some l1)) fl_X8_valley (Or.inl ⟨_, rfl⟩) w_298 dX8_go_2 c1 ?_
  refine G.nmh fun h2 eh2 => ?_
  have hw := wp_bd hw h2 eh2
  refine G_aload_n dX8_go_5 rfl ?_
  refine G_aload_n dX8_go_6 rfl ?_
  obtain ⟨c3, hw⟩ := wp_ck hw
  refine G_putR (v := (some l2)) fl_X8_moment (Or.inl ⟨_, rfl⟩) w_299 dX8_go_7 c3 ?_
  refine G.nmh fun h4 eh4 => ?_
  have hw := wp_bd hw h4 eh4
  refine G_aload_n dX8_go_10 rfl ?_
  refine G_iload_n dX8_go_11 rfl ?_
  obtain ⟨c5, hw⟩ := wp_ck hw
  refine G_putI fl_X8_flue w_301 dX8_go_12 c5 ?_
  refine G.nmh fun h6 eh6 => ?_
  have hw := wp_bd hw h6 eh6
  refine G_aload_n dX8_go_15 rfl ?_
  refine G_aload_n dX8_go_16 rfl ?_
  refine G_aload_n dX8_go_17 rfl ?_
  obtain ⟨c7, hw⟩ := wp_ck hw
  refine G_getNR fl_X2_state w_256 dX8_go_18 c7 ?_
  obtain ⟨a8, ea8, hw⟩ := wp_rq hw
  refine G.sure ea8 ?_
  obtain ⟨c9, hw⟩ := wp_ck hw
  refine G_getNI fl_X4_hour w_217 dX8_go_21 c9 ?_
  obtain ⟨c12, hw⟩ := wp_ck hw
  refine G_callV (As := [.int (hI h6 a8 0)]) (s_X6_windAt hs l1 (hI h6 a8 0) h6 _ (wp_cl hw)) ca_X6_windAt w_975 w_976 (ci := 6) rfl (by decide) w_1169 c12 (Nat.le_of_ble_eq_true rfl) (Nat.le_of_ble_eq_true rfl) rfl (Nat.le_of_ble_eq_true rfl) (Nat.le_of_ble_eq_true rfl) (Nat.le_of_ble_eq_true rfl) dX8_go_24 rfl (fun v h11 hq => ?_)
  obtain ⟨r10, rfl, hw⟩ := hq
  refine G.cse (cs' := (0, 0)) rfl ?_
  show GZ _ _ _ _ _ _ _ 27 _ (.int r10 :: [.ref l0]) _ _
  obtain ⟨c13, hw⟩ := wp_ck hw
  refine G_putI fl_X8_wind w_303 dX8_go_27 c13 ?_
  refine G.nmh fun h14 eh14 => ?_
  have hw := wp_bd hw h14 eh14
  refine G_aload_n dX8_go_30 rfl ?_
  refine G_iconst (v := (0 : Int32)) dX8_go_31 (by decide) ?_
  obtain ⟨c15, hw⟩ := wp_ck hw
  refine G_putI fl_X8_ways w_304 dX8_go_32 c15 ?_
  refine G.nmh fun h16 eh16 => ?_
  have hw := wp_bd hw h16 eh16
  refine G_aload_n dX8_go_35 rfl ?_
  refine G_iconst (v := (0 : Int32)) dX8_go_36 (by decide) ?_
  obtain ⟨c17, hw⟩ := wp_ck hw
  refine G_putI fl_X8_mostDark w_306 dX8_go_37 c17 ?_
  refine G.nmh fun h18 eh18 => ?_
  have hw := wp_bd hw h18 eh18
  refine G_aload_n dX8_go_40 rfl ?_
  refine G_iconst (v := (0 : Int32)) dX8_go_41 (by decide) ?_
  obtain ⟨c19, hw⟩ := wp_ck hw
  refine G_putI fl_X8_mostSweet w_308 dX8_go_42 c19 ?_
  refine G.nmh fun h20 eh20 => ?_
  have hw := wp_bd hw h20 eh20
  refine G_aload_n dX8_go_45 rfl ?_
  refine G_iconst (v := (0 : Int32)) dX8_go_46 (by decide) ?_
  obtain ⟨c21, hw⟩ := wp_ck hw
  refine G_putI fl_X8_mostSign w_310 dX8_go_47 c21 ?_
  refine G.nmh fun h22 eh22 => ?_
  have hw := wp_bd hw h22 eh22
  refine G_aload_n dX8_go_50 rfl ?_
  obtain ⟨c23, hw⟩ := wp_ck hw
  refine G_getR fl_X8_darkSeen w_294 dX8_go_51 c23 ?_
  obtain ⟨a24, ea24, hw⟩ := wp_rq hw
  refine G.sure ea24 ?_
  refine G_iconst (v := (0 : Int32)) dX8_go_54 (by decide) ?_
  refine G_callS (As := [.ref a24, .int (0 : Int32)]) (s_J7_fill_53178 hs a24 (0 : Int32) h22 _ (wp_cl hw)) ca_J7_fill_53178 w_214 w_1170 (Nat.le_of_ble_eq_true rfl) (Nat.le_of_ble_eq_true rfl) rfl (Nat.le_of_ble_eq_true rfl) (Nat.le_of_ble_eq_true rfl) (Nat.le_of_ble_eq_true rfl) dX8_go_55 rfl (fun v h26 hq => ?_)
  obtain ⟨rfl, hw⟩ := hq
  refine G.cse (cs' := (0, 0)) rfl ?_
  show GZ _ _ _ _ _ _ _ 58 _ [] _ _
  refine G_aload_n dX8_go_58 rfl ?_
  obtain ⟨c27, hw⟩ := wp_ck hw
  refine G_getR fl_X8_sweetSeen w_295 dX8_go_59 c27 ?_
  obtain ⟨a28, ea28, hw⟩ := wp_rq hw
  refine G.sure ea28 ?_
  refine G_iconst (v := (0 : Int32)) dX8_go_62 (by decide) ?_
  refine G_callS (As := [.ref a28, .int (0 : Int32)]) (s_J7_fill_53178 hs a28 (0 : Int32) h26 _ (wp_cl hw)) ca_J7_fill_53178 w_214 w_1170 (Nat.le_of_ble_eq_true rfl) (Nat.le_of_ble_eq_true rfl) rfl (Nat.le_of_ble_eq_true rfl) (Nat.le_of_ble_eq_true rfl) (Nat.le_of_ble_eq_true rfl) dX8_go_63 rfl (fun v h30 hq => ?_)
  obtain ⟨rfl, hw⟩ := hq
  refine G.cse (cs' := (0, 0)) rfl ?_
  show GZ _ _ _ _ _ _ _ 66 _ [] _ _
  refine G_aload_n dX8_go_66 rfl ?_
  obtain ⟨c31, hw⟩ := wp_ck hw
  refine G_getR fl_X8_signSeen w_296 dX8_go_67 c31 ?_
  obtain ⟨a32, ea32, hw⟩ := wp_rq hw
  refine G.sure ea32 ?_
  refine G_iconst (v := (0 : Int32)) dX8_go_70 (by decide) ?_
  refine G_callS (As := [.ref a32, .int (0 : Int32)]) (s_J7_fill_53178 hs a32 (0 : Int32) h30 _ (wp_cl hw)) ca_J7_fill_53178 w_214 w_1170 (Nat.le_of_ble_eq_true rfl) (Nat.le_of_ble_eq_true rfl) rfl (Nat.le_of_ble_eq_true rfl) (Nat.le_of_ble_eq_true rfl) (Nat.le_of_ble_eq_true rfl) dX8_go_71 rfl (fun v h34 hq => ?_)
  obtain ⟨rfl, hw⟩ := hq
  refine G.cse (cs' := (0, 0)) rfl ?_
  show GZ _ _ _ _ _ _ _ 74 _ [] _ _
  refine G_aload_n dX8_go_74 rfl ?_
  refine G_iconst (v := (0 : Int32)) dX8_go_75 (by decide) ?_
  obtain ⟨c35, hw⟩ := wp_ck hw
  refine G_putI fl_X8_count w_302 dX8_go_76 c35 ?_
  refine G.nmh fun h36 eh36 => ?_
  have hw := wp_bd hw h36 eh36
  refine G_iconst (v := (0 : Int32)) dX8_go_79 (by decide) ?_
  refine G_istore (lv' := [some (.ref l0), some (.ref l1), some (.ref l2), some (.int l3), some (.int l4), some (.int l5), some (.int (0 : Int32))]) dX8_go_80 (Nat.le_of_ble_eq_true rfl) rfl ?_
  refine G.less [some (.ref l0), some (.ref l1), some (.ref l2), some (.int l3), some (.int l4), some (.int l5), some (.int (0 : Int32))] ⟨rfl, ⟨rfl, ⟨rfl, ⟨rfl, ⟨rfl, ⟨rfl, ⟨rfl, trivial⟩⟩⟩⟩⟩⟩⟩ ?_
  exact f_X8_go_82_ok hs N _ _ _ _ _ _ _ h36 Q hw
set_option maxHeartbeats 4000000 in
set_option maxRecDepth 100000 in
theorem s_X8_besides {Γ : GX} (hs : SF Γ) {N : Nat} (l0 : Nat) (l1 : Nat) (l2 : Nat) (l3 : Int32) (l4 : Int32) (h : PH) (Q : Unit → PH → Prop) (hw : wp (f_X8_besides N l0 l1 l2 l3 l4 h) Q) : Spec Γ yX8_besides cX8_besides 5 none (47, 0, 0) [.ref l0, .ref l1, .ref l2, .int l3, .int l4] h (q_u Q) := by
  refine Spec.of (by decide) (Nat.le_of_ble_eq_true rfl) [some (.ref l0), some (.ref l1), some (.ref l2), some (.int l3), some (.int l4)] rfl ?_
  unfold f_X8_besides at hw
  refine G_aload_n dX8_besides_0 rfl ?_
  refine G_iconst (v := (0 : Int32)) dX8_besides_1 (by decide) ?_
  obtain ⟨c1, hw⟩ := wp_ck hw
  refine G_putZ fl_X8_minded w_300 dX8_besides_2 c1 (Or.inl rfl) ?_
  refine G.nmh fun h2 eh2 => ?_
  have hw := wp_bd hw h2 eh2
  refine G_aload_n dX8_besides_5 rfl ?_
  refine G_aload_n dX8_besides_6 rfl ?_
  refine G_aload_n dX8_besides_7 rfl ?_
  refine G_aload_n dX8_besides_8 rfl ?_
  obtain ⟨c3, hw⟩ := wp_ck hw
  refine G_getNR fl_X6_houseFlue w_443 dX8_besides_9 c3 ?_
  obtain ⟨a4, ea4, hw⟩ := wp_rq hw
  refine G.sure ea4 ?_
  refine G_iload_n dX8_besides_12 rfl ?_
  obtain ⟨c5, hw⟩ := wp_ck hw
  obtain ⟨c6, hw⟩ := wp_ck hw
  refine G_iaload dX8_besides_13 c5 c6 ?_
  refine G_iload_n dX8_besides_14 rfl ?_
  refine G_iload dX8_besides_15 rfl ?_
  obtain ⟨c9, hw⟩ := wp_ck hw
  refine G_callV (As := [.ref l1, .ref l2, .int (hI h2 a4 (ix l3)), .int l3, .int l4]) (s_X8_go hs l0 l1 l2 (hI h2 a4 (ix l3)) l3 l4 h2 _ (wp_cl hw)) ca_X8_go w_1167 w_32 (ci := 8) rfl (by decide) w_1165 c9 (Nat.le_of_ble_eq_true rfl) (Nat.le_of_ble_eq_true rfl) rfl (Nat.le_of_ble_eq_true rfl) (Nat.le_of_ble_eq_true rfl) (Nat.le_of_ble_eq_true rfl) dX8_besides_17 rfl (fun v h8 hq => ?_)
  obtain ⟨rfl, hw⟩ := hq
  refine G.cse (cs' := (0, 0)) rfl ?_
  show GZ _ _ _ _ _ _ _ 20 _ [] _ _
  exact G_vreturn rfl dX8_besides_20 ⟨rfl, wp_ret hw⟩
set_option maxHeartbeats 4000000 in
set_option maxRecDepth 100000 in
theorem f_X10_sure_76_ok {Γ : GX} (hs : SF Γ) {N : Nat} {K_16 : Nat → Int32 → Int32 → Int32 → PH → Option (Int32 × PH)} (hK_16 : ∀ (l0 : Nat) (l1 : Int32) (l2 : Int32) (l3 : Int32) (h : PH) (Q : Int32 → PH → Prop), wp (K_16 l0 l1 l2 l3 h) Q → G Γ yX10_sure cX10_sure 4 (some .int) (48, 0, 0) 16 [some (.ref l0), some (.int l1), some (.int l2), some (.int l3)] [] h (0, 0) (q_i Q)) (l0 : Nat) (l1 : Int32) (l2 : Int32) (l3 : Int32) (h : PH) (Q : Int32 → PH → Prop) (hw : wp (f_X10_sure_76 N K_16 l0 l1 l2 l3 h) Q) : G Γ yX10_sure cX10_sure 4 (some .int) (48, 0, 0) 76 [some (.ref l0), some (.int l1), some (.int l2), some (.int l3)] [] h (0, 0) (q_i Q) := by
  unfold f_X10_sure_76 at hw
  obtain ⟨v1, ev1⟩ : ∃ z : Int32, z = l3 + (1 : Int32) := ⟨_, rfl⟩
  have hw := wp_bd hw v1 ev1
  refine G_iinc (v := v1) (lv' := [some (.ref l0), some (.int l1), some (.int l2), some (.int v1)]) dX10_sure_76 rfl (by rw [ev1]; rfl) (Nat.le_of_ble_eq_true rfl) rfl ?_
  refine G_goto (tgt := 16) dX10_sure_79 rfl ?_
  refine G.less [some (.ref l0), some (.int l1), some (.int l2), some (.int v1)] ⟨rfl, ⟨rfl, ⟨rfl, ⟨rfl, trivial⟩⟩⟩⟩ ?_
  exact hK_16 _ _ _ _ h Q hw
set_option maxHeartbeats 4000000 in
set_option maxRecDepth 100000 in
theorem f_X10_sure_16_bok {Γ : GX} (hs : SF Γ) {N : Nat} {K_16 : Nat → Int32 → Int32 → Int32 → PH → Option (Int32 × PH)} (hK_16 : ∀ (l0 : Nat) (l1 : Int32) (l2 : Int32) (l3 : Int32) (h : PH) (Q : Int32 → PH → Prop), wp (K_16 l0 l1 l2 l3 h) Q → G Γ yX10_sure cX10_sure 4 (some .int) (48, 0, 0) 16 [some (.ref l0), some (.int l1), some (.int l2), some (.int l3)] [] h (0, 0) (q_i Q)) (l0 : Nat) (l1 : Int32) (l2 : Int32) (l3 : Int32) (h : PH) (Q : Int32 → PH → Prop) (hw : wp (f_X10_sure_16_b N K_16 l0 l1 l2 l3 h) Q) : G Γ yX10_sure cX10_sure 4 (some .int) (48, 0, 0) 16 [some (.ref l0), some (.int l1), some (.int l2), some (.int l3)] [] h (0, 0) (q_i Q) := by
  unfold f_X10_sure_16_b at hw
  refine G_iload_n dX10_sure_16 rfl ?_
  refine G_aload_n dX10_sure_17 rfl ?_
  obtain ⟨c1, hw⟩ := wp_ck hw
  refine G_getR fl_X10_valley w_507 dX10_sure_18 c1 ?_
  obtain ⟨a2, ea2, hw⟩ := wp_rq hw
  refine G.sure ea2 ?_
  obtain ⟨c3, hw⟩ := wp_ck hw
  refine G_getNR fl_X6_many w_431 dX10_sure_21 c3 ?_
  obtain ⟨a4, ea4, hw⟩ := wp_rq hw
  refine G.sure ea4 ?_
  refine G_iconst (v := (0 : Int32)) dX10_sure_24 (by decide) ?_
  obtain ⟨c5, hw⟩ := wp_ck hw
  obtain ⟨c6, hw⟩ := wp_ck hw
  refine G_ialoadK (k := 0) dX10_sure_25 c5 (by decide) rfl c6 ?_
  have hw := wp_if hw
  refine G_icmp_ge (tgt := 82) dX10_sure_26 rfl (fun c7 => ?_) (fun c7 => ?_)
  · have hw := hw.1 c7
    refine G_iconst (v := (-1 : Int32)) dX10_sure_82 (by decide) ?_
    exact G_ireturn rfl dX10_sure_83 ⟨_, rfl, wp_ret hw⟩
  · have hw := hw.2 c7
    refine G_aload_n dX10_sure_29 rfl ?_
    refine G_iload_n dX10_sure_30 rfl ?_
    refine G_iload_n dX10_sure_31 rfl ?_
    refine G_callV (As := [.int l1, .int l3]) (s_X10_canBurn hs l0 l1 l3 h _ (wp_cl hw)) ca_X10_canBurn w_1017 w_22 (ci := 9) rfl (by decide) w_1015 c1 (Nat.le_of_ble_eq_true rfl) (Nat.le_of_ble_eq_true rfl) rfl (Nat.le_of_ble_eq_true rfl) (Nat.le_of_ble_eq_true rfl) (Nat.le_of_ble_eq_true rfl) dX10_sure_32 rfl (fun v h9 hq => ?_)
    obtain ⟨r8, rfl, hw⟩ := hq
    refine G.cse (cs' := (0, 0)) rfl ?_
    show GZ _ _ _ _ _ _ _ 35 _ (.int r8 :: []) _ _
    have hw := wp_if hw
    refine G_if_eq (tgt := 76) dX10_sure_35 rfl (fun c10 => ?_) (fun c10 => ?_)
    · have hw := hw.1 c10
      refine G.less [some (.ref l0), some (.int l1), some (.int l2), some (.int l3)] ⟨rfl, ⟨rfl, ⟨rfl, ⟨rfl, trivial⟩⟩⟩⟩ ?_
      exact f_X10_sure_76_ok hs hK_16 _ _ _ _ h9 Q hw
    · have hw := hw.2 c10
      refine G_aload_n dX10_sure_38 rfl ?_
      obtain ⟨c11, hw⟩ := wp_ck hw
      refine G_getR fl_X10_walk w_503 dX10_sure_39 c11 ?_
      obtain ⟨a12, ea12, hw⟩ := wp_rq hw
      refine G.sure ea12 ?_
      refine G_aload_n dX10_sure_42 rfl ?_
      refine G_getR fl_X10_valley w_507 dX10_sure_43 c11 ?_
      obtain ⟨a13, ea13, hw⟩ := wp_rq hw
      refine G.sure ea13 ?_
      refine G_aload_n dX10_sure_46 rfl ?_
      refine G_getR fl_X10_now w_498 dX10_sure_47 c11 ?_
      obtain ⟨a14, ea14, hw⟩ := wp_rq hw
      refine G.sure ea14 ?_
      refine G_iload_n dX10_sure_50 rfl ?_
      refine G_iload_n dX10_sure_51 rfl ?_
      obtain ⟨c17, hw⟩ := wp_ck hw
      refine G_callV (As := [.ref a13, .ref a14, .int l1, .int l3]) (s_X8_besides hs a12 a13 a14 l1 l3 h9 _ (wp_cl hw)) ca_X8_besides w_1162 w_1163 (ci := 8) rfl (by decide) w_1161 c17 (Nat.le_of_ble_eq_true rfl) (Nat.le_of_ble_eq_true rfl) rfl (Nat.le_of_ble_eq_true rfl) (Nat.le_of_ble_eq_true rfl) (Nat.le_of_ble_eq_true rfl) dX10_sure_52 rfl (fun v h16 hq => ?_)
      obtain ⟨rfl, hw⟩ := hq
      refine G.cse (cs' := (0, 0)) rfl ?_
      show GZ _ _ _ _ _ _ _ 55 _ [] _ _
      refine G_aload_n dX10_sure_55 rfl ?_
      obtain ⟨c18, hw⟩ := wp_ck hw
      refine G_getR fl_X10_walk w_503 dX10_sure_56 c18 ?_
      obtain ⟨a19, ea19, hw⟩ := wp_rq hw
      refine G.sure ea19 ?_
      obtain ⟨c20, hw⟩ := wp_ck hw
      refine G_getNR fl_X8_signSeen w_297 dX10_sure_59 c20 ?_
      obtain ⟨a21, ea21, hw⟩ := wp_rq hw
      refine G.sure ea21 ?_
      refine G_iload_n dX10_sure_62 rfl ?_
      obtain ⟨c22, hw⟩ := wp_ck hw
      obtain ⟨c23, hw⟩ := wp_ck hw
      refine G_iaload dX10_sure_63 c22 c23 ?_
      refine G_aload_n dX10_sure_64 rfl ?_
      refine G_getR fl_X10_walk w_503 dX10_sure_65 c18 ?_
      obtain ⟨a24, ea24, hw⟩ := wp_rq hw
      refine G.sure ea24 ?_
      obtain ⟨c25, hw⟩ := wp_ck hw
      refine G_getNI fl_X8_ways w_305 dX10_sure_68 c25 ?_
      have hw := wp_if hw
      refine G_icmp_ne (tgt := 76) dX10_sure_71 rfl (fun c26 => ?_) (fun c26 => ?_)
      · have hw := hw.2 c26
        refine G.less [some (.ref l0), some (.int l1), some (.int l2), some (.int l3)] ⟨rfl, ⟨rfl, ⟨rfl, ⟨rfl, trivial⟩⟩⟩⟩ ?_
        exact f_X10_sure_76_ok hs hK_16 _ _ _ _ h16 Q hw
      · have hw := hw.1 c26
        refine G_iload_n dX10_sure_74 rfl ?_
        exact G_ireturn rfl dX10_sure_75 ⟨_, rfl, wp_ret hw⟩
theorem f_X10_sure_16_ok {Γ : GX} (hs : SF Γ) {N : Nat} : ∀ (n : Nat) (l0 : Nat) (l1 : Int32) (l2 : Int32) (l3 : Int32) (h : PH) (Q : Int32 → PH → Prop), wp (f_X10_sure_16 N n l0 l1 l2 l3 h) Q → G Γ yX10_sure cX10_sure 4 (some .int) (48, 0, 0) 16 [some (.ref l0), some (.int l1), some (.int l2), some (.int l3)] [] h (0, 0) (q_i Q)
  | 0, _, _, _, _, _, Q, hw => (wp_no hw).elim
  | n + 1, l0, l1, l2, l3, h, Q, hw => f_X10_sure_16_bok (N := N) hs (f_X10_sure_16_ok (N := N) hs n) l0 l1 l2 l3 h Q hw
set_option maxHeartbeats 4000000 in
set_option maxRecDepth 100000 in
theorem s_X10_sure {Γ : GX} (hs : SF Γ) {N : Nat} (l0 : Nat) (l1 : Int32) (l2 : Int32) (h : PH) (Q : Int32 → PH → Prop) (hw : wp (f_X10_sure N l0 l1 l2 h) Q) : Spec Γ yX10_sure cX10_sure 4 (some .int) (48, 0, 0) [.ref l0, .int l1, .int l2] h (q_i Q) := by
  refine Spec.of (by decide) (Nat.le_of_ble_eq_true rfl) [some (.ref l0), some (.int l1), some (.int l2), none] rfl ?_
  unfold f_X10_sure at hw
  refine G_aload_n dX10_sure_0 rfl ?_
  obtain ⟨c1, hw⟩ := wp_ck hw
  refine G_getR fl_X10_valley w_507 dX10_sure_1 c1 ?_
  obtain ⟨a2, ea2, hw⟩ := wp_rq hw
  refine G.sure ea2 ?_
  refine G_iconst (v := (3 : Int32)) dX10_sure_4 (by decide) ?_
  refine G_iload_n dX10_sure_5 rfl ?_
  obtain ⟨c5, hw⟩ := wp_ck hw
  refine G_callV (As := [.int (3 : Int32), .int l2]) (s_X6_has hs a2 (3 : Int32) l2 h _ (wp_cl hw)) ca_X6_has w_955 w_956 (ci := 6) rfl (by decide) w_954 c5 (Nat.le_of_ble_eq_true rfl) (Nat.le_of_ble_eq_true rfl) rfl (Nat.le_of_ble_eq_true rfl) (Nat.le_of_ble_eq_true rfl) (Nat.le_of_ble_eq_true rfl) dX10_sure_6 rfl (fun v h4 hq => ?_)
  obtain ⟨r3, rfl, hw⟩ := hq
  refine G.cse (cs' := (0, 0)) rfl ?_
  show GZ _ _ _ _ _ _ _ 9 _ (.int r3 :: []) _ _
  have hw := wp_if hw
  refine G_if_ne (tgt := 14) dX10_sure_9 rfl (fun c6 => ?_) (fun c6 => ?_)
  · have hw := hw.2 c6
    refine G_iconst (v := (0 : Int32)) dX10_sure_14 (by decide) ?_
    refine G_istore_n (lv' := [some (.ref l0), some (.int l1), some (.int l2), some (.int (0 : Int32))]) dX10_sure_15 (Nat.le_of_ble_eq_true rfl) rfl ?_
    refine G.less [some (.ref l0), some (.int l1), some (.int l2), some (.int (0 : Int32))] ⟨rfl, ⟨rfl, ⟨rfl, ⟨rfl, trivial⟩⟩⟩⟩ ?_
    exact f_X10_sure_16_ok hs N _ _ _ _ h4 Q hw
  · have hw := hw.1 c6
    refine G_iconst (v := (-1 : Int32)) dX10_sure_12 (by decide) ?_
    exact G_ireturn rfl dX10_sure_13 ⟨_, rfl, wp_ret hw⟩
set_option maxHeartbeats 4000000 in
set_option maxRecDepth 100000 in
theorem s_X10_hope {Γ : GX} (hs : SF Γ) {N : Nat} (l0 : Nat) (l1 : Int32) (l2 : Int32) (l3 : Int32) (h : PH) (Q : Int32 → PH → Prop) (hw : wp (f_X10_hope N l0 l1 l2 l3 h) Q) : Spec Γ yX10_hope cX10_hope 4 (some .int) (48, 0, 0) [.ref l0, .int l1, .int l2, .int l3] h (q_i Q) := by
  refine Spec.of (by decide) (Nat.le_of_ble_eq_true rfl) [some (.ref l0), some (.int l1), some (.int l2), some (.int l3)] rfl ?_
  unfold f_X10_hope at hw
  refine G_aload_n dX10_hope_0 rfl ?_
  obtain ⟨c1, hw⟩ := wp_ck hw
  refine G_getR fl_X10_valley w_507 dX10_hope_1 c1 ?_
  obtain ⟨a2, ea2, hw⟩ := wp_rq hw
  refine G.sure ea2 ?_
  refine G_iconst (v := (3 : Int32)) dX10_hope_4 (by decide) ?_
  refine G_iload_n dX10_hope_5 rfl ?_
  obtain ⟨c5, hw⟩ := wp_ck hw
  refine G_callV (As := [.int (3 : Int32), .int l3]) (s_X6_has hs a2 (3 : Int32) l3 h _ (wp_cl hw)) ca_X6_has w_955 w_956 (ci := 6) rfl (by decide) w_954 c5 (Nat.le_of_ble_eq_true rfl) (Nat.le_of_ble_eq_true rfl) rfl (Nat.le_of_ble_eq_true rfl) (Nat.le_of_ble_eq_true rfl) (Nat.le_of_ble_eq_true rfl) dX10_hope_6 rfl (fun v h4 hq => ?_)
  obtain ⟨r3, rfl, hw⟩ := hq
  refine G.cse (cs' := (0, 0)) rfl ?_
  show GZ _ _ _ _ _ _ _ 9 _ (.int r3 :: []) _ _
  have hw := wp_if hw
  refine G_if_eq (tgt := 21) dX10_hope_9 rfl (fun c6 => ?_) (fun c6 => ?_)
  · have hw := hw.1 c6
    refine G_iconst (v := (-1 : Int32)) dX10_hope_21 (by decide) ?_
    exact G_ireturn rfl dX10_hope_22 ⟨_, rfl, wp_ret hw⟩
  · have hw := hw.2 c6
    refine G_aload_n dX10_hope_12 rfl ?_
    refine G_iload_n dX10_hope_13 rfl ?_
    refine G_iload_n dX10_hope_14 rfl ?_
    obtain ⟨c9, hw⟩ := wp_ck hw
    refine G_callV (As := [.int l1, .int l2]) (s_X10_canBurn hs l0 l1 l2 h4 _ (wp_cl hw)) ca_X10_canBurn w_1017 w_22 (ci := 9) rfl (by decide) w_1015 c9 (Nat.le_of_ble_eq_true rfl) (Nat.le_of_ble_eq_true rfl) rfl (Nat.le_of_ble_eq_true rfl) (Nat.le_of_ble_eq_true rfl) (Nat.le_of_ble_eq_true rfl) dX10_hope_15 rfl (fun v h8 hq => ?_)
    obtain ⟨r7, rfl, hw⟩ := hq
    refine G.cse (cs' := (0, 0)) rfl ?_
    show GZ _ _ _ _ _ _ _ 18 _ (.int r7 :: []) _ _
    have hw := wp_if hw
    refine G_if_ne (tgt := 23) dX10_hope_18 rfl (fun c10 => ?_) (fun c10 => ?_)
    · have hw := hw.2 c10
      refine G_aload_n dX10_hope_23 rfl ?_
      obtain ⟨c11, hw⟩ := wp_ck hw
      refine G_getR fl_X10_walk w_503 dX10_hope_24 c11 ?_
      obtain ⟨a12, ea12, hw⟩ := wp_rq hw
      refine G.sure ea12 ?_
      refine G_aload_n dX10_hope_27 rfl ?_
      refine G_getR fl_X10_valley w_507 dX10_hope_28 c11 ?_
      obtain ⟨a13, ea13, hw⟩ := wp_rq hw
      refine G.sure ea13 ?_
      refine G_aload_n dX10_hope_31 rfl ?_
      refine G_getR fl_X10_now w_498 dX10_hope_32 c11 ?_
      obtain ⟨a14, ea14, hw⟩ := wp_rq hw
      refine G.sure ea14 ?_
      refine G_iload_n dX10_hope_35 rfl ?_
      refine G_iload_n dX10_hope_36 rfl ?_
      obtain ⟨c17, hw⟩ := wp_ck hw
      refine G_callV (As := [.ref a13, .ref a14, .int l1, .int l2]) (s_X8_besides hs a12 a13 a14 l1 l2 h8 _ (wp_cl hw)) ca_X8_besides w_1162 w_1163 (ci := 8) rfl (by decide) w_1161 c17 (Nat.le_of_ble_eq_true rfl) (Nat.le_of_ble_eq_true rfl) rfl (Nat.le_of_ble_eq_true rfl) (Nat.le_of_ble_eq_true rfl) (Nat.le_of_ble_eq_true rfl) dX10_hope_37 rfl (fun v h16 hq => ?_)
      obtain ⟨rfl, hw⟩ := hq
      refine G.cse (cs' := (0, 0)) rfl ?_
      show GZ _ _ _ _ _ _ _ 40 _ [] _ _
      refine G_aload_n dX10_hope_40 rfl ?_
      obtain ⟨c18, hw⟩ := wp_ck hw
      refine G_getR fl_X10_walk w_503 dX10_hope_41 c18 ?_
      obtain ⟨a19, ea19, hw⟩ := wp_rq hw
      refine G.sure ea19 ?_
      obtain ⟨c20, hw⟩ := wp_ck hw
      refine G_getNI fl_X8_ways w_305 dX10_hope_44 c20 ?_
      have hw := wp_if hw
      refine G_if_le (tgt := 73) dX10_hope_47 rfl (fun c21 => ?_) (fun c21 => ?_)
      · have hw := hw.1 c21
        refine G_iconst (v := (-1 : Int32)) dX10_hope_73 (by decide) ?_
        exact G_ireturn rfl dX10_hope_74 ⟨_, rfl, wp_ret hw⟩
      · have hw := hw.2 c21
        refine G_aload_n dX10_hope_50 rfl ?_
        refine G_getR fl_X10_walk w_503 dX10_hope_51 c18 ?_
        obtain ⟨a22, ea22, hw⟩ := wp_rq hw
        refine G.sure ea22 ?_
        obtain ⟨c23, hw⟩ := wp_ck hw
        refine G_getNR fl_X8_signSeen w_297 dX10_hope_54 c23 ?_
        obtain ⟨a24, ea24, hw⟩ := wp_rq hw
        refine G.sure ea24 ?_
        refine G_iload_n dX10_hope_57 rfl ?_
        obtain ⟨c25, hw⟩ := wp_ck hw
        obtain ⟨c26, hw⟩ := wp_ck hw
        refine G_iaload dX10_hope_58 c25 c26 ?_
        refine G_ldc (v := (1000000 : Int32)) dX10_hope_59 w_1204 ?_
        refine G_imul dX10_hope_61 ?_
        refine G_aload_n dX10_hope_62 rfl ?_
        refine G_getR fl_X10_walk w_503 dX10_hope_63 c18 ?_
        obtain ⟨a27, ea27, hw⟩ := wp_rq hw
        refine G.sure ea27 ?_
        obtain ⟨c28, hw⟩ := wp_ck hw
        refine G_getNI fl_X8_ways w_305 dX10_hope_66 c28 ?_
        obtain ⟨c29, hw⟩ := wp_ck hw
        refine G_idiv dX10_hope_69 c29 ?_
        refine G_goto (tgt := 74) dX10_hope_70 rfl ?_
        exact G_ireturn rfl dX10_hope_74 ⟨_, rfl, wp_ret hw⟩
    · have hw := hw.1 c10
      refine G_iconst (v := (-1 : Int32)) dX10_hope_21 (by decide) ?_
      exact G_ireturn rfl dX10_hope_22 ⟨_, rfl, wp_ret hw⟩
set_option maxHeartbeats 4000000 in
set_option maxRecDepth 100000 in
theorem s_X2_addRead {Γ : GX} (hs : SF Γ) {N : Nat} (l0 : Nat) (l1 : Int32) (l2 : Int32) (l3 : Int32) (h : PH) (Q : Int32 → PH → Prop) (hw : wp (f_X2_addRead N l0 l1 l2 l3 h) Q) : Spec Γ yX2_addRead cX2_addRead 4 (some .boolean) (1, 0, 0) [.ref l0, .int l1, .int l2, .int l3] h (q_i Q) := by
  refine Spec.of (by decide) (Nat.le_of_ble_eq_true rfl) [some (.ref l0), some (.int l1), some (.int l2), some (.int l3)] rfl ?_
  unfold f_X2_addRead at hw
  refine G_aload_n dX2_addRead_0 rfl ?_
  obtain ⟨c1, hw⟩ := wp_ck hw
  refine G_getI fl_X2_reads w_263 dX2_addRead_1 c1 ?_
  refine G_bipush (v := (8 : Int32)) dX2_addRead_4 (by decide) ?_
  have hw := wp_if hw
  refine G_icmp_lt (tgt := 11) dX2_addRead_6 rfl (fun c2 => ?_) (fun c2 => ?_)
  · have hw := hw.1 c2
    refine G_aload_n dX2_addRead_11 rfl ?_
    refine G_getR fl_X2_readWatcher w_260 dX2_addRead_12 c1 ?_
    obtain ⟨a3, ea3, hw⟩ := wp_rq hw
    refine G.sure ea3 ?_
    refine G_aload_n dX2_addRead_15 rfl ?_
    refine G_getI fl_X2_reads w_263 dX2_addRead_16 c1 ?_
    refine G_iload_n dX2_addRead_19 rfl ?_
    obtain ⟨c4, hw⟩ := wp_ck hw
    obtain ⟨c5, hw⟩ := wp_ck hw
    refine G_iastore dX2_addRead_20 c4 c5 ?_
    refine G.nmh fun h6 eh6 => ?_
    have hw := wp_bd hw h6 eh6
    refine G_aload_n dX2_addRead_21 rfl ?_
    obtain ⟨c7, hw⟩ := wp_ck hw
    refine G_getR fl_X2_readFlue w_261 dX2_addRead_22 c7 ?_
    obtain ⟨a8, ea8, hw⟩ := wp_rq hw
    refine G.sure ea8 ?_
    refine G_aload_n dX2_addRead_25 rfl ?_
    refine G_getI fl_X2_reads w_263 dX2_addRead_26 c7 ?_
    refine G_iload_n dX2_addRead_29 rfl ?_
    obtain ⟨c9, hw⟩ := wp_ck hw
    obtain ⟨c10, hw⟩ := wp_ck hw
    refine G_iastore dX2_addRead_30 c9 c10 ?_
    refine G.nmh fun h11 eh11 => ?_
    have hw := wp_bd hw h11 eh11
    refine G_aload_n dX2_addRead_31 rfl ?_
    obtain ⟨c12, hw⟩ := wp_ck hw
    refine G_getR fl_X2_readSign w_262 dX2_addRead_32 c12 ?_
    obtain ⟨a13, ea13, hw⟩ := wp_rq hw
    refine G.sure ea13 ?_
    refine G_aload_n dX2_addRead_35 rfl ?_
    refine G_getI fl_X2_reads w_263 dX2_addRead_36 c12 ?_
    refine G_iload_n dX2_addRead_39 rfl ?_
    obtain ⟨c14, hw⟩ := wp_ck hw
    obtain ⟨c15, hw⟩ := wp_ck hw
    refine G_iastore dX2_addRead_40 c14 c15 ?_
    refine G.nmh fun h16 eh16 => ?_
    have hw := wp_bd hw h16 eh16
    refine G_aload_n dX2_addRead_41 rfl ?_
    refine G_dup dX2_addRead_42 rfl ?_
    obtain ⟨c17, hw⟩ := wp_ck hw
    refine G_getI fl_X2_reads w_263 dX2_addRead_43 c17 ?_
    refine G_iconst (v := (1 : Int32)) dX2_addRead_46 (by decide) ?_
    refine G_iadd dX2_addRead_47 ?_
    refine G_putI fl_X2_reads w_263 dX2_addRead_48 c17 ?_
    refine G.nmh fun h18 eh18 => ?_
    have hw := wp_bd hw h18 eh18
    refine G_iconst (v := (1 : Int32)) dX2_addRead_51 (by decide) ?_
    exact G_zreturn rfl dX2_addRead_52 rfl ⟨_, rfl, wp_ret hw⟩
  · have hw := hw.2 c2
    refine G_iconst (v := (0 : Int32)) dX2_addRead_9 (by decide) ?_
    exact G_zreturn rfl dX2_addRead_10 rfl ⟨_, rfl, wp_ret hw⟩
set_option maxHeartbeats 4000000 in
set_option maxRecDepth 100000 in
theorem s_X10_read {Γ : GX} (hs : SF Γ) {N : Nat} (l0 : Nat) (l1 : Int32) (l2 : Int32) (l3 : Int32) (h : PH) (Q : Int32 → PH → Prop) (hw : wp (f_X10_read N l0 l1 l2 l3 h) Q) : Spec Γ yX10_read cX10_read 4 (some .boolean) (3, 0, 0) [.ref l0, .int l1, .int l2, .int l3] h (q_i Q) := by
  refine Spec.of (by decide) (Nat.le_of_ble_eq_true rfl) [some (.ref l0), some (.int l1), some (.int l2), some (.int l3)] rfl ?_
  unfold f_X10_read at hw
  refine G_aload_n dX10_read_0 rfl ?_
  obtain ⟨c1, hw⟩ := wp_ck hw
  refine G_getR fl_X10_valley w_507 dX10_read_1 c1 ?_
  obtain ⟨a2, ea2, hw⟩ := wp_rq hw
  refine G.sure ea2 ?_
  refine G_iconst (v := (4 : Int32)) dX10_read_4 (by decide) ?_
  refine G_iload_n dX10_read_5 rfl ?_
  obtain ⟨c5, hw⟩ := wp_ck hw
  refine G_callV (As := [.int (4 : Int32), .int l1]) (s_X6_has hs a2 (4 : Int32) l1 h _ (wp_cl hw)) ca_X6_has w_955 w_956 (ci := 6) rfl (by decide) w_954 c5 (Nat.le_of_ble_eq_true rfl) (Nat.le_of_ble_eq_true rfl) rfl (Nat.le_of_ble_eq_true rfl) (Nat.le_of_ble_eq_true rfl) (Nat.le_of_ble_eq_true rfl) dX10_read_6 rfl (fun v h4 hq => ?_)
  obtain ⟨r3, rfl, hw⟩ := hq
  refine G.cse (cs' := (0, 0)) rfl ?_
  show GZ _ _ _ _ _ _ _ 9 _ (.int r3 :: []) _ _
  have hw := wp_if hw
  refine G_if_eq (tgt := 32) dX10_read_9 rfl (fun c6 => ?_) (fun c6 => ?_)
  · have hw := hw.1 c6
    refine G_iconst (v := (0 : Int32)) dX10_read_32 (by decide) ?_
    exact G_zreturn rfl dX10_read_33 rfl ⟨_, rfl, wp_ret hw⟩
  · have hw := hw.2 c6
    refine G_aload_n dX10_read_12 rfl ?_
    obtain ⟨c7, hw⟩ := wp_ck hw
    refine G_getR fl_X10_valley w_507 dX10_read_13 c7 ?_
    obtain ⟨a8, ea8, hw⟩ := wp_rq hw
    refine G.sure ea8 ?_
    refine G_iconst (v := (1 : Int32)) dX10_read_16 (by decide) ?_
    refine G_iload_n dX10_read_17 rfl ?_
    obtain ⟨c11, hw⟩ := wp_ck hw
    refine G_callV (As := [.int (1 : Int32), .int l2]) (s_X6_has hs a8 (1 : Int32) l2 h4 _ (wp_cl hw)) ca_X6_has w_955 w_956 (ci := 6) rfl (by decide) w_954 c11 (Nat.le_of_ble_eq_true rfl) (Nat.le_of_ble_eq_true rfl) rfl (Nat.le_of_ble_eq_true rfl) (Nat.le_of_ble_eq_true rfl) (Nat.le_of_ble_eq_true rfl) dX10_read_18 rfl (fun v h10 hq => ?_)
    obtain ⟨r9, rfl, hw⟩ := hq
    refine G.cse (cs' := (0, 0)) rfl ?_
    show GZ _ _ _ _ _ _ _ 21 _ (.int r9 :: []) _ _
    have hw := wp_if hw
    refine G_if_eq (tgt := 32) dX10_read_21 rfl (fun c12 => ?_) (fun c12 => ?_)
    · have hw := hw.1 c12
      refine G_iconst (v := (0 : Int32)) dX10_read_32 (by decide) ?_
      exact G_zreturn rfl dX10_read_33 rfl ⟨_, rfl, wp_ret hw⟩
    · have hw := hw.2 c12
      refine G_aload_n dX10_read_24 rfl ?_
      refine G_iload_n dX10_read_25 rfl ?_
      obtain ⟨c15, hw⟩ := wp_ck hw
      refine G_callV (As := [.int l3]) (s_X10_isSignOrNone hs l0 l3 h10 _ (wp_cl hw)) ca_X10_isSignOrNone w_1105 w_24 (ci := 9) rfl (by decide) w_1103 c15 (Nat.le_of_ble_eq_true rfl) (Nat.le_of_ble_eq_true rfl) rfl (Nat.le_of_ble_eq_true rfl) (Nat.le_of_ble_eq_true rfl) (Nat.le_of_ble_eq_true rfl) dX10_read_26 rfl (fun v h14 hq => ?_)
      obtain ⟨r13, rfl, hw⟩ := hq
      refine G.cse (cs' := (0, 0)) rfl ?_
      show GZ _ _ _ _ _ _ _ 29 _ (.int r13 :: []) _ _
      have hw := wp_if hw
      refine G_if_ne (tgt := 34) dX10_read_29 rfl (fun c16 => ?_) (fun c16 => ?_)
      · have hw := hw.2 c16
        refine G_aload_n dX10_read_34 rfl ?_
        obtain ⟨c17, hw⟩ := wp_ck hw
        refine G_getR fl_X10_now w_498 dX10_read_35 c17 ?_
        obtain ⟨a18, ea18, hw⟩ := wp_rq hw
        refine G.sure ea18 ?_
        refine G_iload_n dX10_read_38 rfl ?_
        refine G_iload_n dX10_read_39 rfl ?_
        refine G_iload_n dX10_read_40 rfl ?_
        obtain ⟨c21, hw⟩ := wp_ck hw
        refine G_callV (As := [.int l1, .int l2, .int l3]) (s_X2_addRead hs a18 l1 l2 l3 h14 _ (wp_cl hw)) ca_X2_addRead w_1210 w_1211 (ci := 2) rfl (by decide) w_1209 c21 (Nat.le_of_ble_eq_true rfl) (Nat.le_of_ble_eq_true rfl) rfl (Nat.le_of_ble_eq_true rfl) (Nat.le_of_ble_eq_true rfl) (Nat.le_of_ble_eq_true rfl) dX10_read_41 rfl (fun v h20 hq => ?_)
        obtain ⟨r19, rfl, hw⟩ := hq
        refine G.cse (cs' := (0, 0)) rfl ?_
        show GZ _ _ _ _ _ _ _ 44 _ (.int r19 :: []) _ _
        obtain ⟨c22, hw⟩ := wp_ck hw
        exact G_zreturn rfl dX10_read_44 (g_nb c22) ⟨_, rfl, wp_ret hw⟩
      · have hw := hw.1 c16
        refine G_iconst (v := (0 : Int32)) dX10_read_32 (by decide) ?_
        exact G_zreturn rfl dX10_read_33 rfl ⟨_, rfl, wp_ret hw⟩
set_option maxHeartbeats 4000000 in
set_option maxRecDepth 100000 in
theorem s_X8_byRead {Γ : GX} (hs : SF Γ) {N : Nat} (l0 : Nat) (l1 : Nat) (l2 : Nat) (l3 : Int32) (h : PH) (Q : Unit → PH → Prop) (hw : wp (f_X8_byRead N l0 l1 l2 l3 h) Q) : Spec Γ yX8_byRead cX8_byRead 4 none (47, 0, 0) [.ref l0, .ref l1, .ref l2, .int l3] h (q_u Q) := by
  refine Spec.of (by decide) (Nat.le_of_ble_eq_true rfl) [some (.ref l0), some (.ref l1), some (.ref l2), some (.int l3)] rfl ?_
  unfold f_X8_byRead at hw
  refine G_aload_n dX8_byRead_0 rfl ?_
  refine G_iconst (v := (1 : Int32)) dX8_byRead_1 (by decide) ?_
  obtain ⟨c1, hw⟩ := wp_ck hw
  refine G_putZ fl_X8_minded w_300 dX8_byRead_2 c1 (Or.inr rfl) ?_
  refine G.nmh fun h2 eh2 => ?_
  have hw := wp_bd hw h2 eh2
  refine G_aload_n dX8_byRead_5 rfl ?_
  refine G_aload_n dX8_byRead_6 rfl ?_
  refine G_aload_n dX8_byRead_7 rfl ?_
  refine G_iload_n dX8_byRead_8 rfl ?_
  refine G_iconst (v := (-1 : Int32)) dX8_byRead_9 (by decide) ?_
  refine G_iconst (v := (-1 : Int32)) dX8_byRead_10 (by decide) ?_
  obtain ⟨c5, hw⟩ := wp_ck hw
  refine G_callV (As := [.ref l1, .ref l2, .int l3, .int (-1 : Int32), .int (-1 : Int32)]) (s_X8_go hs l0 l1 l2 l3 (-1 : Int32) (-1 : Int32) h2 _ (wp_cl hw)) ca_X8_go w_1167 w_32 (ci := 8) rfl (by decide) w_1165 c5 (Nat.le_of_ble_eq_true rfl) (Nat.le_of_ble_eq_true rfl) rfl (Nat.le_of_ble_eq_true rfl) (Nat.le_of_ble_eq_true rfl) (Nat.le_of_ble_eq_true rfl) dX8_byRead_11 rfl (fun v h4 hq => ?_)
  obtain ⟨rfl, hw⟩ := hq
  refine G.cse (cs' := (0, 0)) rfl ?_
  show GZ _ _ _ _ _ _ _ 14 _ [] _ _
  exact G_vreturn rfl dX8_byRead_14 ⟨rfl, wp_ret hw⟩
set_option maxHeartbeats 4000000 in
set_option maxRecDepth 100000 in
theorem f_X8_sameOf_34_ok {Γ : GX} (hs : SF Γ) {N : Nat} {K_2 : Nat → Int32 → Int32 → PH → Option (Int32 × PH)} (hK_2 : ∀ (l0 : Nat) (l1 : Int32) (l2 : Int32) (h : PH) (Q : Int32 → PH → Prop), wp (K_2 l0 l1 l2 h) Q → G Γ yX8_sameOf cX8_sameOf 3 (some .int) (1, 0, 0) 2 [some (.ref l0), some (.int l1), some (.int l2)] [] h (0, 0) (q_i Q)) (l0 : Nat) (l1 : Int32) (l2 : Int32) (h : PH) (Q : Int32 → PH → Prop) (hw : wp (f_X8_sameOf_34 N K_2 l0 l1 l2 h) Q) : G Γ yX8_sameOf cX8_sameOf 3 (some .int) (1, 0, 0) 34 [some (.ref l0), some (.int l1), some (.int l2)] [] h (0, 0) (q_i Q) := by
  unfold f_X8_sameOf_34 at hw
  obtain ⟨v1, ev1⟩ : ∃ z : Int32, z = l2 + (1 : Int32) := ⟨_, rfl⟩
  have hw := wp_bd hw v1 ev1
  refine G_iinc (v := v1) (lv' := [some (.ref l0), some (.int l1), some (.int v1)]) dX8_sameOf_34 rfl (by rw [ev1]; rfl) (Nat.le_of_ble_eq_true rfl) rfl ?_
  refine G_goto (tgt := 2) dX8_sameOf_37 rfl ?_
  refine G.less [some (.ref l0), some (.int l1), some (.int v1)] ⟨rfl, ⟨rfl, ⟨rfl, trivial⟩⟩⟩ ?_
  exact hK_2 _ _ _ h Q hw
set_option maxHeartbeats 4000000 in
set_option maxRecDepth 100000 in
theorem f_X8_sameOf_2_bok {Γ : GX} (hs : SF Γ) {N : Nat} {K_2 : Nat → Int32 → Int32 → PH → Option (Int32 × PH)} (hK_2 : ∀ (l0 : Nat) (l1 : Int32) (l2 : Int32) (h : PH) (Q : Int32 → PH → Prop), wp (K_2 l0 l1 l2 h) Q → G Γ yX8_sameOf cX8_sameOf 3 (some .int) (1, 0, 0) 2 [some (.ref l0), some (.int l1), some (.int l2)] [] h (0, 0) (q_i Q)) (l0 : Nat) (l1 : Int32) (l2 : Int32) (h : PH) (Q : Int32 → PH → Prop) (hw : wp (f_X8_sameOf_2_b N K_2 l0 l1 l2 h) Q) : G Γ yX8_sameOf cX8_sameOf 3 (some .int) (1, 0, 0) 2 [some (.ref l0), some (.int l1), some (.int l2)] [] h (0, 0) (q_i Q) := by
  unfold f_X8_sameOf_2_b at hw
  refine G_iload_n dX8_sameOf_2 rfl ?_
  refine G_aload_n dX8_sameOf_3 rfl ?_
  obtain ⟨c1, hw⟩ := wp_ck hw
  refine G_getI fl_X8_count w_302 dX8_sameOf_4 c1 ?_
  have hw := wp_if hw
  refine G_icmp_ge (tgt := 40) dX8_sameOf_7 rfl (fun c2 => ?_) (fun c2 => ?_)
  · have hw := hw.1 c2
    refine G_iconst (v := (-1 : Int32)) dX8_sameOf_40 (by decide) ?_
    exact G_ireturn rfl dX8_sameOf_41 ⟨_, rfl, wp_ret hw⟩
  · have hw := hw.2 c2
    refine G_aload_n dX8_sameOf_10 rfl ?_
    refine G_getR fl_X8_houses w_290 dX8_sameOf_11 c1 ?_
    obtain ⟨a3, ea3, hw⟩ := wp_rq hw
    refine G.sure ea3 ?_
    refine G_iload_n dX8_sameOf_14 rfl ?_
    obtain ⟨c4, hw⟩ := wp_ck hw
    obtain ⟨c5, hw⟩ := wp_ck hw
    refine G_iaload dX8_sameOf_15 c4 c5 ?_
    refine G_iload_n dX8_sameOf_16 rfl ?_
    have hw := wp_if hw
    refine G_icmp_ne (tgt := 34) dX8_sameOf_17 rfl (fun c6 => ?_) (fun c6 => ?_)
    · have hw := hw.2 c6
      refine G.less [some (.ref l0), some (.int l1), some (.int l2)] ⟨rfl, ⟨rfl, ⟨rfl, trivial⟩⟩⟩ ?_
      exact f_X8_sameOf_34_ok hs hK_2 _ _ _ h Q hw
    · have hw := hw.1 c6
      refine G_aload_n dX8_sameOf_20 rfl ?_
      refine G_getI fl_X8_ways w_304 dX8_sameOf_21 c1 ?_
      have hw := wp_if hw
      refine G_if_le (tgt := 34) dX8_sameOf_24 rfl (fun c7 => ?_) (fun c7 => ?_)
      · have hw := hw.1 c7
        refine G.less [some (.ref l0), some (.int l1), some (.int l2)] ⟨rfl, ⟨rfl, ⟨rfl, trivial⟩⟩⟩ ?_
        exact f_X8_sameOf_34_ok hs hK_2 _ _ _ h Q hw
      · have hw := hw.2 c7
        refine G_aload_n dX8_sameOf_27 rfl ?_
        refine G_getR fl_X8_same w_293 dX8_sameOf_28 c1 ?_
        obtain ⟨a8, ea8, hw⟩ := wp_rq hw
        refine G.sure ea8 ?_
        refine G_iload_n dX8_sameOf_31 rfl ?_
        obtain ⟨c9, hw⟩ := wp_ck hw
        obtain ⟨c10, hw⟩ := wp_ck hw
        refine G_iaload dX8_sameOf_32 c9 c10 ?_
        exact G_ireturn rfl dX8_sameOf_33 ⟨_, rfl, wp_ret hw⟩
theorem f_X8_sameOf_2_ok {Γ : GX} (hs : SF Γ) {N : Nat} : ∀ (n : Nat) (l0 : Nat) (l1 : Int32) (l2 : Int32) (h : PH) (Q : Int32 → PH → Prop), wp (f_X8_sameOf_2 N n l0 l1 l2 h) Q → G Γ yX8_sameOf cX8_sameOf 3 (some .int) (1, 0, 0) 2 [some (.ref l0), some (.int l1), some (.int l2)] [] h (0, 0) (q_i Q)
  | 0, _, _, _, _, Q, hw => (wp_no hw).elim
  | n + 1, l0, l1, l2, h, Q, hw => f_X8_sameOf_2_bok (N := N) hs (f_X8_sameOf_2_ok (N := N) hs n) l0 l1 l2 h Q hw
set_option maxHeartbeats 4000000 in
set_option maxRecDepth 100000 in
theorem s_X8_sameOf {Γ : GX} (hs : SF Γ) {N : Nat} (l0 : Nat) (l1 : Int32) (h : PH) (Q : Int32 → PH → Prop) (hw : wp (f_X8_sameOf N l0 l1 h) Q) : Spec Γ yX8_sameOf cX8_sameOf 3 (some .int) (1, 0, 0) [.ref l0, .int l1] h (q_i Q) := by
  refine Spec.of (by decide) (Nat.le_of_ble_eq_true rfl) [some (.ref l0), some (.int l1), none] rfl ?_
  unfold f_X8_sameOf at hw
  refine G_iconst (v := (0 : Int32)) dX8_sameOf_0 (by decide) ?_
  refine G_istore_n (lv' := [some (.ref l0), some (.int l1), some (.int (0 : Int32))]) dX8_sameOf_1 (Nat.le_of_ble_eq_true rfl) rfl ?_
  refine G.less [some (.ref l0), some (.int l1), some (.int (0 : Int32))] ⟨rfl, ⟨rfl, ⟨rfl, trivial⟩⟩⟩ ?_
  exact f_X8_sameOf_2_ok hs N _ _ _ h Q hw
set_option maxHeartbeats 4000000 in
set_option maxRecDepth 100000 in
theorem f_X10_ways_110_ok {Γ : GX} (hs : SF Γ) {N : Nat} {K_41 : Nat → Int32 → Int32 → Int32 → Int32 → PH → Option (Int32 × PH)} (hK_41 : ∀ (l0 : Nat) (l1 : Int32) (l2 : Int32) (l3 : Int32) (l4 : Int32) (h : PH) (Q : Int32 → PH → Prop), wp (K_41 l0 l1 l2 l3 l4 h) Q → G Γ yX10_ways cX10_ways 5 (some .int) (48, 0, 0) 41 [some (.ref l0), some (.int l1), some (.int l2), some (.int l3), some (.int l4)] [] h (0, 0) (q_i Q)) (l0 : Nat) (l1 : Int32) (l2 : Int32) (l3 : Int32) (l4 : Int32) (h : PH) (Q : Int32 → PH → Prop) (hw : wp (f_X10_ways_110 N K_41 l0 l1 l2 l3 l4 h) Q) : G Γ yX10_ways cX10_ways 5 (some .int) (48, 0, 0) 110 [some (.ref l0), some (.int l1), some (.int l2), some (.int l3), some (.int l4)] [] h (0, 0) (q_i Q) := by
  unfold f_X10_ways_110 at hw
  obtain ⟨v1, ev1⟩ : ∃ z : Int32, z = l4 + (1 : Int32) := ⟨_, rfl⟩
  have hw := wp_bd hw v1 ev1
  refine G_iinc (v := v1) (lv' := [some (.ref l0), some (.int l1), some (.int l2), some (.int l3), some (.int v1)]) dX10_ways_110 rfl (by rw [ev1]; rfl) (Nat.le_of_ble_eq_true rfl) rfl ?_
  refine G_goto (tgt := 41) dX10_ways_113 rfl ?_
  refine G.less [some (.ref l0), some (.int l1), some (.int l2), some (.int l3), some (.int v1)] ⟨rfl, ⟨rfl, ⟨rfl, ⟨rfl, ⟨rfl, trivial⟩⟩⟩⟩⟩ ?_
  exact hK_41 _ _ _ _ _ h Q hw
set_option maxHeartbeats 4000000 in
set_option maxRecDepth 100000 in
theorem f_X10_ways_41_bok {Γ : GX} (hs : SF Γ) {N : Nat} {K_41 : Nat → Int32 → Int32 → Int32 → Int32 → PH → Option (Int32 × PH)} (hK_41 : ∀ (l0 : Nat) (l1 : Int32) (l2 : Int32) (l3 : Int32) (l4 : Int32) (h : PH) (Q : Int32 → PH → Prop), wp (K_41 l0 l1 l2 l3 l4 h) Q → G Γ yX10_ways cX10_ways 5 (some .int) (48, 0, 0) 41 [some (.ref l0), some (.int l1), some (.int l2), some (.int l3), some (.int l4)] [] h (0, 0) (q_i Q)) (l0 : Nat) (l1 : Int32) (l2 : Int32) (l3 : Int32) (l4 : Int32) (h : PH) (Q : Int32 → PH → Prop) (hw : wp (f_X10_ways_41_b N K_41 l0 l1 l2 l3 l4 h) Q) : G Γ yX10_ways cX10_ways 5 (some .int) (48, 0, 0) 41 [some (.ref l0), some (.int l1), some (.int l2), some (.int l3), some (.int l4)] [] h (0, 0) (q_i Q) := by
  unfold f_X10_ways_41_b at hw
  refine G_iload dX10_ways_41 rfl ?_
  refine G_aload_n dX10_ways_43 rfl ?_
  obtain ⟨c1, hw⟩ := wp_ck hw
  refine G_getR fl_X10_valley w_507 dX10_ways_44 c1 ?_
  obtain ⟨a2, ea2, hw⟩ := wp_rq hw
  refine G.sure ea2 ?_
  obtain ⟨c3, hw⟩ := wp_ck hw
  refine G_getNR fl_X6_many w_431 dX10_ways_47 c3 ?_
  obtain ⟨a4, ea4, hw⟩ := wp_rq hw
  refine G.sure ea4 ?_
  refine G_iconst (v := (1 : Int32)) dX10_ways_50 (by decide) ?_
  obtain ⟨c5, hw⟩ := wp_ck hw
  obtain ⟨c6, hw⟩ := wp_ck hw
  refine G_ialoadK (k := 1) dX10_ways_51 c5 (by decide) rfl c6 ?_
  have hw := wp_if hw
  refine G_icmp_ge (tgt := 116) dX10_ways_52 rfl (fun c7 => ?_) (fun c7 => ?_)
  · have hw := hw.1 c7
    refine G_iload_n dX10_ways_116 rfl ?_
    refine G_iconst (v := (-1 : Int32)) dX10_ways_117 (by decide) ?_
    have hw := wp_if hw
    refine G_icmp_ne (tgt := 123) dX10_ways_118 rfl (fun c8 => ?_) (fun c8 => ?_)
    · have hw := hw.2 c8
      refine G_iload_n dX10_ways_123 rfl ?_
      have hw := wp_if hw
      refine G_if_ne (tgt := 131) dX10_ways_124 rfl (fun c9 => ?_) (fun c9 => ?_)
      · have hw := hw.2 c9
        refine G_iload_n dX10_ways_131 rfl ?_
        exact G_ireturn rfl dX10_ways_132 ⟨_, rfl, wp_ret hw⟩
      · have hw := hw.1 c9
        refine G_iconst (v := (-1 : Int32)) dX10_ways_127 (by decide) ?_
        refine G_goto (tgt := 132) dX10_ways_128 rfl ?_
        exact G_ireturn rfl dX10_ways_132 ⟨_, rfl, wp_ret hw⟩
    · have hw := hw.1 c8
      refine G_iload_n dX10_ways_121 rfl ?_
      exact G_ireturn rfl dX10_ways_122 ⟨_, rfl, wp_ret hw⟩
  · have hw := hw.2 c7
    refine G_aload_n dX10_ways_55 rfl ?_
    refine G_getR fl_X10_walk w_503 dX10_ways_56 c1 ?_
    obtain ⟨a10, ea10, hw⟩ := wp_rq hw
    refine G.sure ea10 ?_
    refine G_aload_n dX10_ways_59 rfl ?_
    refine G_getR fl_X10_valley w_507 dX10_ways_60 c1 ?_
    obtain ⟨a11, ea11, hw⟩ := wp_rq hw
    refine G.sure ea11 ?_
    refine G_aload_n dX10_ways_63 rfl ?_
    refine G_getR fl_X10_now w_498 dX10_ways_64 c1 ?_
    obtain ⟨a12, ea12, hw⟩ := wp_rq hw
    refine G.sure ea12 ?_
    refine G_iload dX10_ways_67 rfl ?_
    obtain ⟨c15, hw⟩ := wp_ck hw
    refine G_callV (As := [.ref a11, .ref a12, .int l4]) (s_X8_byRead hs a10 a11 a12 l4 h _ (wp_cl hw)) ca_X8_byRead w_1219 w_1220 (ci := 8) rfl (by decide) w_1218 c15 (Nat.le_of_ble_eq_true rfl) (Nat.le_of_ble_eq_true rfl) rfl (Nat.le_of_ble_eq_true rfl) (Nat.le_of_ble_eq_true rfl) (Nat.le_of_ble_eq_true rfl) dX10_ways_69 rfl (fun v h14 hq => ?_)
    obtain ⟨rfl, hw⟩ := hq
    refine G.cse (cs' := (0, 0)) rfl ?_
    show GZ _ _ _ _ _ _ _ 72 _ [] _ _
    refine G_iload_n dX10_ways_72 rfl ?_
    refine G_aload_n dX10_ways_73 rfl ?_
    obtain ⟨c16, hw⟩ := wp_ck hw
    refine G_getR fl_X10_walk w_503 dX10_ways_74 c16 ?_
    obtain ⟨a17, ea17, hw⟩ := wp_rq hw
    refine G.sure ea17 ?_
    obtain ⟨c18, hw⟩ := wp_ck hw
    refine G_getNI fl_X8_ways w_305 dX10_ways_77 c18 ?_
    refine G_imul dX10_ways_80 ?_
    refine G.topi fun v19 ev19 => ?_
    have hw := wp_bd hw v19 ev19
    refine G_istore_n (lv' := [some (.ref l0), some (.int l1), some (.int v19), some (.int l3), some (.int l4)]) dX10_ways_81 (Nat.le_of_ble_eq_true rfl) rfl ?_
    refine G_iload_n dX10_ways_82 rfl ?_
    refine G_iconst (v := (-1 : Int32)) dX10_ways_83 (by decide) ?_
    have hw := wp_if hw
    refine G_icmp_eq (tgt := 110) dX10_ways_84 rfl (fun c20 => ?_) (fun c20 => ?_)
    · have hw := hw.1 c20
      refine G.less [some (.ref l0), some (.int l1), some (.int v19), some (.int l3), some (.int l4)] ⟨rfl, ⟨rfl, ⟨rfl, ⟨rfl, ⟨rfl, trivial⟩⟩⟩⟩⟩ ?_
      exact f_X10_ways_110_ok hs hK_41 _ _ _ _ _ h14 Q hw
    · have hw := hw.2 c20
      refine G_aload_n dX10_ways_87 rfl ?_
      refine G_getR fl_X10_valley w_507 dX10_ways_88 c16 ?_
      obtain ⟨a21, ea21, hw⟩ := wp_rq hw
      refine G.sure ea21 ?_
      obtain ⟨c22, hw⟩ := wp_ck hw
      refine G_getNR fl_X6_houseFlue w_444 dX10_ways_91 c22 ?_
      obtain ⟨a23, ea23, hw⟩ := wp_rq hw
      refine G.sure ea23 ?_
      refine G_iload_n dX10_ways_94 rfl ?_
      obtain ⟨c24, hw⟩ := wp_ck hw
      obtain ⟨c25, hw⟩ := wp_ck hw
      refine G_iaload dX10_ways_95 c24 c25 ?_
      refine G_iload dX10_ways_96 rfl ?_
      have hw := wp_if hw
      refine G_icmp_ne (tgt := 110) dX10_ways_98 rfl (fun c26 => ?_) (fun c26 => ?_)
      · have hw := hw.2 c26
        refine G.less [some (.ref l0), some (.int l1), some (.int v19), some (.int l3), some (.int l4)] ⟨rfl, ⟨rfl, ⟨rfl, ⟨rfl, ⟨rfl, trivial⟩⟩⟩⟩⟩ ?_
        exact f_X10_ways_110_ok hs hK_41 _ _ _ _ _ h14 Q hw
      · have hw := hw.1 c26
        refine G_aload_n dX10_ways_101 rfl ?_
        refine G_getR fl_X10_walk w_503 dX10_ways_102 c16 ?_
        obtain ⟨a27, ea27, hw⟩ := wp_rq hw
        refine G.sure ea27 ?_
        refine G_iload_n dX10_ways_105 rfl ?_
        obtain ⟨c30, hw⟩ := wp_ck hw
        refine G_callV (As := [.int l1]) (s_X8_sameOf hs a27 l1 h14 _ (wp_cl hw)) ca_X8_sameOf w_1223 w_1224 (ci := 8) rfl (by decide) w_1222 c30 (Nat.le_of_ble_eq_true rfl) (Nat.le_of_ble_eq_true rfl) rfl (Nat.le_of_ble_eq_true rfl) (Nat.le_of_ble_eq_true rfl) (Nat.le_of_ble_eq_true rfl) dX10_ways_106 rfl (fun v h29 hq => ?_)
        obtain ⟨r28, rfl, hw⟩ := hq
        refine G.cse (cs' := (0, 0)) rfl ?_
        show GZ _ _ _ _ _ _ _ 109 _ (.int r28 :: []) _ _
        refine G_istore_n (lv' := [some (.ref l0), some (.int l1), some (.int v19), some (.int r28), some (.int l4)]) dX10_ways_109 (Nat.le_of_ble_eq_true rfl) rfl ?_
        refine G.less [some (.ref l0), some (.int l1), some (.int v19), some (.int r28), some (.int l4)] ⟨rfl, ⟨rfl, ⟨rfl, ⟨rfl, ⟨rfl, trivial⟩⟩⟩⟩⟩ ?_
        exact f_X10_ways_110_ok hs hK_41 _ _ _ _ _ h29 Q hw
theorem f_X10_ways_41_ok {Γ : GX} (hs : SF Γ) {N : Nat} : ∀ (n : Nat) (l0 : Nat) (l1 : Int32) (l2 : Int32) (l3 : Int32) (l4 : Int32) (h : PH) (Q : Int32 → PH → Prop), wp (f_X10_ways_41 N n l0 l1 l2 l3 l4 h) Q → G Γ yX10_ways cX10_ways 5 (some .int) (48, 0, 0) 41 [some (.ref l0), some (.int l1), some (.int l2), some (.int l3), some (.int l4)] [] h (0, 0) (q_i Q)
  | 0, _, _, _, _, _, _, Q, hw => (wp_no hw).elim
  | n + 1, l0, l1, l2, l3, l4, h, Q, hw => f_X10_ways_41_bok (N := N) hs (f_X10_ways_41_ok (N := N) hs n) l0 l1 l2 l3 l4 h Q hw
set_option maxHeartbeats 4000000 in
set_option maxRecDepth 100000 in
theorem f_X10_ways_34_ok {Γ : GX} (hs : SF Γ) {N : Nat} (l0 : Nat) (l1 : Int32) (h : PH) (Q : Int32 → PH → Prop) (hw : wp (f_X10_ways_34 N l0 l1 h) Q) : G Γ yX10_ways cX10_ways 5 (some .int) (48, 0, 0) 34 [some (.ref l0), some (.int l1), none, none, none] [] h (0, 0) (q_i Q) := by
  unfold f_X10_ways_34 at hw
  refine G_iconst (v := (1 : Int32)) dX10_ways_34 (by decide) ?_
  refine G_istore_n (lv' := [some (.ref l0), some (.int l1), some (.int (1 : Int32)), none, none]) dX10_ways_35 (Nat.le_of_ble_eq_true rfl) rfl ?_
  refine G_iconst (v := (-1 : Int32)) dX10_ways_36 (by decide) ?_
  refine G_istore_n (lv' := [some (.ref l0), some (.int l1), some (.int (1 : Int32)), some (.int (-1 : Int32)), none]) dX10_ways_37 (Nat.le_of_ble_eq_true rfl) rfl ?_
  refine G_iconst (v := (0 : Int32)) dX10_ways_38 (by decide) ?_
  refine G_istore (lv' := [some (.ref l0), some (.int l1), some (.int (1 : Int32)), some (.int (-1 : Int32)), some (.int (0 : Int32))]) dX10_ways_39 (Nat.le_of_ble_eq_true rfl) rfl ?_
  refine G.less [some (.ref l0), some (.int l1), some (.int (1 : Int32)), some (.int (-1 : Int32)), some (.int (0 : Int32))] ⟨rfl, ⟨rfl, ⟨rfl, ⟨rfl, ⟨rfl, trivial⟩⟩⟩⟩⟩ ?_
  exact f_X10_ways_41_ok hs N _ _ _ _ _ h Q hw
set_option maxHeartbeats 4000000 in
set_option maxRecDepth 100000 in
theorem s_X10_ways {Γ : GX} (hs : SF Γ) {N : Nat} (l0 : Nat) (l1 : Int32) (h : PH) (Q : Int32 → PH → Prop) (hw : wp (f_X10_ways N l0 l1 h) Q) : Spec Γ yX10_ways cX10_ways 5 (some .int) (48, 0, 0) [.ref l0, .int l1] h (q_i Q) := by
  refine Spec.of (by decide) (Nat.le_of_ble_eq_true rfl) [some (.ref l0), some (.int l1), none, none, none] rfl ?_
  unfold f_X10_ways at hw
  refine G_iload_n dX10_ways_0 rfl ?_
  refine G_iconst (v := (-1 : Int32)) dX10_ways_1 (by decide) ?_
  have hw := wp_if hw
  refine G_icmp_eq (tgt := 34) dX10_ways_2 rfl (fun c1 => ?_) (fun c1 => ?_)
  · have hw := hw.1 c1
    refine G.less [some (.ref l0), some (.int l1), none, none, none] ⟨rfl, ⟨rfl, trivial⟩⟩ ?_
    exact f_X10_ways_34_ok hs _ _ h Q hw
  · have hw := hw.2 c1
    refine G_aload_n dX10_ways_5 rfl ?_
    obtain ⟨c2, hw⟩ := wp_ck hw
    refine G_getR fl_X10_valley w_507 dX10_ways_6 c2 ?_
    obtain ⟨a3, ea3, hw⟩ := wp_rq hw
    refine G.sure ea3 ?_
    refine G_iconst (v := (2 : Int32)) dX10_ways_9 (by decide) ?_
    refine G_iload_n dX10_ways_10 rfl ?_
    obtain ⟨c6, hw⟩ := wp_ck hw
    refine G_callV (As := [.int (2 : Int32), .int l1]) (s_X6_has hs a3 (2 : Int32) l1 h _ (wp_cl hw)) ca_X6_has w_955 w_956 (ci := 6) rfl (by decide) w_954 c6 (Nat.le_of_ble_eq_true rfl) (Nat.le_of_ble_eq_true rfl) rfl (Nat.le_of_ble_eq_true rfl) (Nat.le_of_ble_eq_true rfl) (Nat.le_of_ble_eq_true rfl) dX10_ways_11 rfl (fun v h5 hq => ?_)
    obtain ⟨r4, rfl, hw⟩ := hq
    refine G.cse (cs' := (0, 0)) rfl ?_
    show GZ _ _ _ _ _ _ _ 14 _ (.int r4 :: []) _ _
    have hw := wp_if hw
    refine G_if_eq (tgt := 31) dX10_ways_14 rfl (fun c7 => ?_) (fun c7 => ?_)
    · have hw := hw.1 c7
      refine G_bipush (v := (-2 : Int32)) dX10_ways_31 (by decide) ?_
      exact G_ireturn rfl dX10_ways_33 ⟨_, rfl, wp_ret hw⟩
    · have hw := hw.2 c7
      refine G_aload_n dX10_ways_17 rfl ?_
      obtain ⟨c8, hw⟩ := wp_ck hw
      refine G_getR fl_X10_now w_498 dX10_ways_18 c8 ?_
      obtain ⟨a9, ea9, hw⟩ := wp_rq hw
      refine G.sure ea9 ?_
      obtain ⟨c10, hw⟩ := wp_ck hw
      refine G_getNR fl_X2_state w_257 dX10_ways_21 c10 ?_
      obtain ⟨a11, ea11, hw⟩ := wp_rq hw
      refine G.sure ea11 ?_
      refine G_iload_n dX10_ways_24 rfl ?_
      obtain ⟨c14, hw⟩ := wp_ck hw
      refine G_callV (As := [.int l1]) (s_X4_burns hs a11 l1 h5 _ (wp_cl hw)) ca_X4_burns w_1024 w_1025 (ci := 4) rfl (by decide) w_1217 c14 (Nat.le_of_ble_eq_true rfl) (Nat.le_of_ble_eq_true rfl) rfl (Nat.le_of_ble_eq_true rfl) (Nat.le_of_ble_eq_true rfl) (Nat.le_of_ble_eq_true rfl) dX10_ways_25 rfl (fun v h13 hq => ?_)
      obtain ⟨r12, rfl, hw⟩ := hq
      refine G.cse (cs' := (0, 0)) rfl ?_
      show GZ _ _ _ _ _ _ _ 28 _ (.int r12 :: []) _ _
      have hw := wp_if hw
      refine G_if_eq (tgt := 34) dX10_ways_28 rfl (fun c15 => ?_) (fun c15 => ?_)
      · have hw := hw.1 c15
        refine G.less [some (.ref l0), some (.int l1), none, none, none] ⟨rfl, ⟨rfl, trivial⟩⟩ ?_
        exact f_X10_ways_34_ok hs _ _ h13 Q hw
      · have hw := hw.2 c15
        refine G_bipush (v := (-2 : Int32)) dX10_ways_31 (by decide) ?_
        exact G_ireturn rfl dX10_ways_33 ⟨_, rfl, wp_ret hw⟩
set_option maxHeartbeats 4000000 in
set_option maxRecDepth 100000 in
theorem f_X10_ask_214_ok {Γ : GX} (hs : SF Γ) {N : Nat} {K_123 : Nat → Int32 → Int32 → Int32 → Int32 → Int32 → PH → Option (Int32 × PH)} {K_140 : Nat → Int32 → Int32 → Int32 → Int32 → Int32 → Int32 → PH → Option (Int32 × PH)} (hK_123 : ∀ (l0 : Nat) (l1 : Int32) (l2 : Int32) (l3 : Int32) (l4 : Int32) (l5 : Int32) (h : PH) (Q : Int32 → PH → Prop), wp (K_123 l0 l1 l2 l3 l4 l5 h) Q → G Γ yX10_ask cX10_ask 9 (some .int) (48, 0, 0) 123 [some (.ref l0), some (.int l1), some (.int l2), some (.int l3), some (.int l4), some (.int l5), none, none, none] [] h (0, 0) (q_i Q)) (hK_140 : ∀ (l0 : Nat) (l1 : Int32) (l2 : Int32) (l3 : Int32) (l4 : Int32) (l5 : Int32) (l6 : Int32) (h : PH) (Q : Int32 → PH → Prop), wp (K_140 l0 l1 l2 l3 l4 l5 l6 h) Q → G Γ yX10_ask cX10_ask 9 (some .int) (48, 0, 0) 140 [some (.ref l0), some (.int l1), some (.int l2), some (.int l3), some (.int l4), some (.int l5), some (.int l6), none, none] [] h (0, 0) (q_i Q)) (l0 : Nat) (l1 : Int32) (l2 : Int32) (l3 : Int32) (l4 : Int32) (l5 : Int32) (l6 : Int32) (h : PH) (Q : Int32 → PH → Prop) (hw : wp (f_X10_ask_214 N K_123 K_140 l0 l1 l2 l3 l4 l5 l6 h) Q) : G Γ yX10_ask cX10_ask 9 (some .int) (48, 0, 0) 214 [some (.ref l0), some (.int l1), some (.int l2), some (.int l3), some (.int l4), some (.int l5), some (.int l6), none, none] [] h (0, 0) (q_i Q) := by
  unfold f_X10_ask_214 at hw
  obtain ⟨v1, ev1⟩ : ∃ z : Int32, z = l6 + (1 : Int32) := ⟨_, rfl⟩
  have hw := wp_bd hw v1 ev1
  refine G_iinc (v := v1) (lv' := [some (.ref l0), some (.int l1), some (.int l2), some (.int l3), some (.int l4), some (.int l5), some (.int v1), none, none]) dX10_ask_214 rfl (by rw [ev1]; rfl) (Nat.le_of_ble_eq_true rfl) rfl ?_
  refine G_goto (tgt := 140) dX10_ask_217 rfl ?_
  refine G.less [some (.ref l0), some (.int l1), some (.int l2), some (.int l3), some (.int l4), some (.int l5), some (.int v1), none, none] ⟨rfl, ⟨rfl, ⟨rfl, ⟨rfl, ⟨rfl, ⟨rfl, ⟨rfl, trivial⟩⟩⟩⟩⟩⟩⟩ ?_
  exact hK_140 _ _ _ _ _ _ _ h Q hw
set_option maxHeartbeats 4000000 in
set_option maxRecDepth 100000 in
theorem f_X10_ask_169_ok {Γ : GX} (hs : SF Γ) {N : Nat} {K_123 : Nat → Int32 → Int32 → Int32 → Int32 → Int32 → PH → Option (Int32 × PH)} {K_140 : Nat → Int32 → Int32 → Int32 → Int32 → Int32 → Int32 → PH → Option (Int32 × PH)} (hK_123 : ∀ (l0 : Nat) (l1 : Int32) (l2 : Int32) (l3 : Int32) (l4 : Int32) (l5 : Int32) (h : PH) (Q : Int32 → PH → Prop), wp (K_123 l0 l1 l2 l3 l4 l5 h) Q → G Γ yX10_ask cX10_ask 9 (some .int) (48, 0, 0) 123 [some (.ref l0), some (.int l1), some (.int l2), some (.int l3), some (.int l4), some (.int l5), none, none, none] [] h (0, 0) (q_i Q)) (hK_140 : ∀ (l0 : Nat) (l1 : Int32) (l2 : Int32) (l3 : Int32) (l4 : Int32) (l5 : Int32) (l6 : Int32) (h : PH) (Q : Int32 → PH → Prop), wp (K_140 l0 l1 l2 l3 l4 l5 l6 h) Q → G Γ yX10_ask cX10_ask 9 (some .int) (48, 0, 0) 140 [some (.ref l0), some (.int l1), some (.int l2), some (.int l3), some (.int l4), some (.int l5), some (.int l6), none, none] [] h (0, 0) (q_i Q)) (s0 : Int32) (l0 : Nat) (l1 : Int32) (l2 : Int32) (l3 : Int32) (l4 : Int32) (l5 : Int32) (l6 : Int32) (h : PH) (Q : Int32 → PH → Prop) (hw : wp (f_X10_ask_169 N K_123 K_140 s0 l0 l1 l2 l3 l4 l5 l6 h) Q) : G Γ yX10_ask cX10_ask 9 (some .int) (48, 0, 0) 169 [some (.ref l0), some (.int l1), some (.int l2), some (.int l3), some (.int l4), some (.int l5), some (.int l6), none, none] [.int s0] h (0, 0) (q_i Q) := by
  unfold f_X10_ask_169 at hw
  refine G_istore (lv' := [some (.ref l0), some (.int l1), some (.int l2), some (.int l3), some (.int l4), some (.int l5), some (.int l6), some (.int s0), none]) dX10_ask_169 (Nat.le_of_ble_eq_true rfl) rfl ?_
  refine G_aload_n dX10_ask_171 rfl ?_
  obtain ⟨c1, hw⟩ := wp_ck hw
  refine G_getR fl_X10_flueAlike w_506 dX10_ask_172 c1 ?_
  obtain ⟨a2, ea2, hw⟩ := wp_rq hw
  refine G.sure ea2 ?_
  refine G_iload dX10_ask_175 rfl ?_
  refine G_iconst (v := (3 : Int32)) dX10_ask_177 (by decide) ?_
  refine G_imul dX10_ask_178 ?_
  refine G_aload_n dX10_ask_179 rfl ?_
  refine G_getR fl_X10_valley w_507 dX10_ask_180 c1 ?_
  obtain ⟨a3, ea3, hw⟩ := wp_rq hw
  refine G.sure ea3 ?_
  obtain ⟨c4, hw⟩ := wp_ck hw
  refine G_getNR fl_X6_sights w_456 dX10_ask_183 c4 ?_
  obtain ⟨a5, ea5, hw⟩ := wp_rq hw
  refine G.sure ea5 ?_
  refine G_iload dX10_ask_186 rfl ?_
  obtain ⟨c6, hw⟩ := wp_ck hw
  obtain ⟨c7, hw⟩ := wp_ck hw
  refine G_iaload dX10_ask_188 c6 c7 ?_
  refine G_iadd dX10_ask_189 ?_
  obtain ⟨c8, hw⟩ := wp_ck hw
  obtain ⟨c9, hw⟩ := wp_ck hw
  refine G_iaload dX10_ask_190 c8 c9 ?_
  refine G_iload dX10_ask_191 rfl ?_
  refine G_imul dX10_ask_193 ?_
  refine G.topi fun v10 ev10 => ?_
  have hw := wp_bd hw v10 ev10
  refine G_istore (lv' := [some (.ref l0), some (.int l1), some (.int l2), some (.int l3), some (.int l4), some (.int l5), some (.int l6), some (.int s0), some (.int v10)]) dX10_ask_194 (Nat.le_of_ble_eq_true rfl) rfl ?_
  refine G_iload dX10_ask_196 rfl ?_
  refine G_iload_n dX10_ask_198 rfl ?_
  have hw := wp_if hw
  refine G_icmp_ge (tgt := 214) dX10_ask_199 rfl (fun c11 => ?_) (fun c11 => ?_)
  · have hw := hw.1 c11
    refine G.less [some (.ref l0), some (.int l1), some (.int l2), some (.int l3), some (.int l4), some (.int l5), some (.int l6), none, none] ⟨rfl, ⟨rfl, ⟨rfl, ⟨rfl, ⟨rfl, ⟨rfl, ⟨rfl, trivial⟩⟩⟩⟩⟩⟩⟩ ?_
    exact f_X10_ask_214_ok hs hK_123 hK_140 _ _ _ _ _ _ _ h Q hw
  · have hw := hw.2 c11
    refine G_iload dX10_ask_202 rfl ?_
    refine G_istore_n (lv' := [some (.ref l0), some (.int l1), some (.int l2), some (.int v10), some (.int l4), some (.int l5), some (.int l6), some (.int s0), some (.int v10)]) dX10_ask_204 (Nat.le_of_ble_eq_true rfl) rfl ?_
    refine G_iload dX10_ask_205 rfl ?_
    refine G_iconst (v := (3 : Int32)) dX10_ask_207 (by decide) ?_
    refine G_imul dX10_ask_208 ?_
    refine G_iload dX10_ask_209 rfl ?_
    refine G_iadd dX10_ask_211 ?_
    refine G.topi fun v12 ev12 => ?_
    have hw := wp_bd hw v12 ev12
    refine G_istore (lv' := [some (.ref l0), some (.int l1), some (.int l2), some (.int v10), some (.int v12), some (.int l5), some (.int l6), some (.int s0), some (.int v10)]) dX10_ask_212 (Nat.le_of_ble_eq_true rfl) rfl ?_
    refine G.less [some (.ref l0), some (.int l1), some (.int l2), some (.int v10), some (.int v12), some (.int l5), some (.int l6), none, none] ⟨rfl, ⟨rfl, ⟨rfl, ⟨rfl, ⟨rfl, ⟨rfl, ⟨rfl, trivial⟩⟩⟩⟩⟩⟩⟩ ?_
    exact f_X10_ask_214_ok hs hK_123 hK_140 _ _ _ _ _ _ _ h Q hw
set_option maxHeartbeats 4000000 in
set_option maxRecDepth 100000 in
theorem f_X10_ask_140_bok {Γ : GX} (hs : SF Γ) {N : Nat} {K_123 : Nat → Int32 → Int32 → Int32 → Int32 → Int32 → PH → Option (Int32 × PH)} {K_140 : Nat → Int32 → Int32 → Int32 → Int32 → Int32 → Int32 → PH → Option (Int32 × PH)} (hK_123 : ∀ (l0 : Nat) (l1 : Int32) (l2 : Int32) (l3 : Int32) (l4 : Int32) (l5 : Int32) (h : PH) (Q : Int32 → PH → Prop), wp (K_123 l0 l1 l2 l3 l4 l5 h) Q → G Γ yX10_ask cX10_ask 9 (some .int) (48, 0, 0) 123 [some (.ref l0), some (.int l1), some (.int l2), some (.int l3), some (.int l4), some (.int l5), none, none, none] [] h (0, 0) (q_i Q)) (hK_140 : ∀ (l0 : Nat) (l1 : Int32) (l2 : Int32) (l3 : Int32) (l4 : Int32) (l5 : Int32) (l6 : Int32) (h : PH) (Q : Int32 → PH → Prop), wp (K_140 l0 l1 l2 l3 l4 l5 l6 h) Q → G Γ yX10_ask cX10_ask 9 (some .int) (48, 0, 0) 140 [some (.ref l0), some (.int l1), some (.int l2), some (.int l3), some (.int l4), some (.int l5), some (.int l6), none, none] [] h (0, 0) (q_i Q)) (l0 : Nat) (l1 : Int32) (l2 : Int32) (l3 : Int32) (l4 : Int32) (l5 : Int32) (l6 : Int32) (h : PH) (Q : Int32 → PH → Prop) (hw : wp (f_X10_ask_140_b N K_123 K_140 l0 l1 l2 l3 l4 l5 l6 h) Q) : G Γ yX10_ask cX10_ask 9 (some .int) (48, 0, 0) 140 [some (.ref l0), some (.int l1), some (.int l2), some (.int l3), some (.int l4), some (.int l5), some (.int l6), none, none] [] h (0, 0) (q_i Q) := by
  unfold f_X10_ask_140_b at hw
  refine G_iload dX10_ask_140 rfl ?_
  refine G_iload_n dX10_ask_142 rfl ?_
  have hw := wp_if hw
  refine G_icmp_ge (tgt := 220) dX10_ask_143 rfl (fun c1 => ?_) (fun c1 => ?_)
  · have hw := hw.1 c1
    obtain ⟨v2, ev2⟩ : ∃ z : Int32, z = l5 + (1 : Int32) := ⟨_, rfl⟩
    have hw := wp_bd hw v2 ev2
    refine G_iinc (v := v2) (lv' := [some (.ref l0), some (.int l1), some (.int l2), some (.int l3), some (.int l4), some (.int v2), some (.int l6), none, none]) dX10_ask_220 rfl (by rw [ev2]; rfl) (Nat.le_of_ble_eq_true rfl) rfl ?_
    refine G_goto (tgt := 123) dX10_ask_223 rfl ?_
    refine G.less [some (.ref l0), some (.int l1), some (.int l2), some (.int l3), some (.int l4), some (.int v2), none, none, none] ⟨rfl, ⟨rfl, ⟨rfl, ⟨rfl, ⟨rfl, ⟨rfl, trivial⟩⟩⟩⟩⟩⟩ ?_
    exact hK_123 _ _ _ _ _ _ h Q hw
  · have hw := hw.2 c1
    refine G_aload_n dX10_ask_146 rfl ?_
    obtain ⟨c3, hw⟩ := wp_ck hw
    refine G_getR fl_X10_flueWays w_505 dX10_ask_147 c3 ?_
    obtain ⟨a4, ea4, hw⟩ := wp_rq hw
    refine G.sure ea4 ?_
    refine G_iload dX10_ask_150 rfl ?_
    obtain ⟨c5, hw⟩ := wp_ck hw
    obtain ⟨c6, hw⟩ := wp_ck hw
    refine G_iaload dX10_ask_152 c5 c6 ?_
    have hw := wp_if hw
    refine G_if_le (tgt := 168) dX10_ask_153 rfl (fun c7 => ?_) (fun c7 => ?_)
    · have hw := hw.1 c7
      refine G_iconst (v := (0 : Int32)) dX10_ask_168 (by decide) ?_
      refine G.less [some (.ref l0), some (.int l1), some (.int l2), some (.int l3), some (.int l4), some (.int l5), some (.int l6), none, none] ⟨rfl, ⟨rfl, ⟨rfl, ⟨rfl, ⟨rfl, ⟨rfl, ⟨rfl, trivial⟩⟩⟩⟩⟩⟩⟩ ?_
      exact f_X10_ask_169_ok hs hK_123 hK_140 _ _ _ _ _ _ _ _ h Q hw
    · have hw := hw.2 c7
      refine G_iload_n dX10_ask_156 rfl ?_
      refine G_aload_n dX10_ask_157 rfl ?_
      refine G_getR fl_X10_flueWays w_505 dX10_ask_158 c3 ?_
      obtain ⟨a8, ea8, hw⟩ := wp_rq hw
      refine G.sure ea8 ?_
      refine G_iload dX10_ask_161 rfl ?_
      obtain ⟨c9, hw⟩ := wp_ck hw
      obtain ⟨c10, hw⟩ := wp_ck hw
      refine G_iaload dX10_ask_163 c9 c10 ?_
      obtain ⟨c11, hw⟩ := wp_ck hw
      refine G_idiv dX10_ask_164 c11 ?_
      refine G_goto (tgt := 169) dX10_ask_165 rfl ?_
      refine G.less [some (.ref l0), some (.int l1), some (.int l2), some (.int l3), some (.int l4), some (.int l5), some (.int l6), none, none] ⟨rfl, ⟨rfl, ⟨rfl, ⟨rfl, ⟨rfl, ⟨rfl, ⟨rfl, trivial⟩⟩⟩⟩⟩⟩⟩ ?_
      exact f_X10_ask_169_ok hs hK_123 hK_140 _ _ _ _ _ _ _ _ h Q hw
theorem f_X10_ask_140_ok {Γ : GX} (hs : SF Γ) {N : Nat} {K_123 : Nat → Int32 → Int32 → Int32 → Int32 → Int32 → PH → Option (Int32 × PH)} (hK_123 : ∀ (l0 : Nat) (l1 : Int32) (l2 : Int32) (l3 : Int32) (l4 : Int32) (l5 : Int32) (h : PH) (Q : Int32 → PH → Prop), wp (K_123 l0 l1 l2 l3 l4 l5 h) Q → G Γ yX10_ask cX10_ask 9 (some .int) (48, 0, 0) 123 [some (.ref l0), some (.int l1), some (.int l2), some (.int l3), some (.int l4), some (.int l5), none, none, none] [] h (0, 0) (q_i Q)) : ∀ (n : Nat) (l0 : Nat) (l1 : Int32) (l2 : Int32) (l3 : Int32) (l4 : Int32) (l5 : Int32) (l6 : Int32) (h : PH) (Q : Int32 → PH → Prop), wp (f_X10_ask_140 N K_123 n l0 l1 l2 l3 l4 l5 l6 h) Q → G Γ yX10_ask cX10_ask 9 (some .int) (48, 0, 0) 140 [some (.ref l0), some (.int l1), some (.int l2), some (.int l3), some (.int l4), some (.int l5), some (.int l6), none, none] [] h (0, 0) (q_i Q)
  | 0, _, _, _, _, _, _, _, _, Q, hw => (wp_no hw).elim
  | n + 1, l0, l1, l2, l3, l4, l5, l6, h, Q, hw => f_X10_ask_140_bok (N := N) hs hK_123 (f_X10_ask_140_ok (N := N) hs hK_123 n) l0 l1 l2 l3 l4 l5 l6 h Q hw
set_option maxHeartbeats 4000000 in
set_option maxRecDepth 100000 in
theorem f_X10_ask_123_bok {Γ : GX} (hs : SF Γ) {N : Nat} {K_123 : Nat → Int32 → Int32 → Int32 → Int32 → Int32 → PH → Option (Int32 × PH)} (hK_123 : ∀ (l0 : Nat) (l1 : Int32) (l2 : Int32) (l3 : Int32) (l4 : Int32) (l5 : Int32) (h : PH) (Q : Int32 → PH → Prop), wp (K_123 l0 l1 l2 l3 l4 l5 h) Q → G Γ yX10_ask cX10_ask 9 (some .int) (48, 0, 0) 123 [some (.ref l0), some (.int l1), some (.int l2), some (.int l3), some (.int l4), some (.int l5), none, none, none] [] h (0, 0) (q_i Q)) (l0 : Nat) (l1 : Int32) (l2 : Int32) (l3 : Int32) (l4 : Int32) (l5 : Int32) (h : PH) (Q : Int32 → PH → Prop) (hw : wp (f_X10_ask_123_b N K_123 l0 l1 l2 l3 l4 l5 h) Q) : G Γ yX10_ask cX10_ask 9 (some .int) (48, 0, 0) 123 [some (.ref l0), some (.int l1), some (.int l2), some (.int l3), some (.int l4), some (.int l5), none, none, none] [] h (0, 0) (q_i Q) := by
  unfold f_X10_ask_123_b at hw
  refine G_iload dX10_ask_123 rfl ?_
  refine G_aload_n dX10_ask_125 rfl ?_
  obtain ⟨c1, hw⟩ := wp_ck hw
  refine G_getR fl_X10_valley w_507 dX10_ask_126 c1 ?_
  obtain ⟨a2, ea2, hw⟩ := wp_rq hw
  refine G.sure ea2 ?_
  obtain ⟨c3, hw⟩ := wp_ck hw
  refine G_getNR fl_X6_many w_431 dX10_ask_129 c3 ?_
  obtain ⟨a4, ea4, hw⟩ := wp_rq hw
  refine G.sure ea4 ?_
  refine G_iconst (v := (4 : Int32)) dX10_ask_132 (by decide) ?_
  obtain ⟨c5, hw⟩ := wp_ck hw
  obtain ⟨c6, hw⟩ := wp_ck hw
  refine G_ialoadK (k := 4) dX10_ask_133 c5 (by decide) rfl c6 ?_
  have hw := wp_if hw
  refine G_icmp_ge (tgt := 226) dX10_ask_134 rfl (fun c7 => ?_) (fun c7 => ?_)
  · have hw := hw.1 c7
    refine G_iload dX10_ask_226 rfl ?_
    exact G_ireturn rfl dX10_ask_228 ⟨_, rfl, wp_ret hw⟩
  · have hw := hw.2 c7
    refine G_iconst (v := (0 : Int32)) dX10_ask_137 (by decide) ?_
    refine G_istore (lv' := [some (.ref l0), some (.int l1), some (.int l2), some (.int l3), some (.int l4), some (.int l5), some (.int (0 : Int32)), none, none]) dX10_ask_138 (Nat.le_of_ble_eq_true rfl) rfl ?_
    refine G.less [some (.ref l0), some (.int l1), some (.int l2), some (.int l3), some (.int l4), some (.int l5), some (.int (0 : Int32)), none, none] ⟨rfl, ⟨rfl, ⟨rfl, ⟨rfl, ⟨rfl, ⟨rfl, ⟨rfl, trivial⟩⟩⟩⟩⟩⟩⟩ ?_
    exact f_X10_ask_140_ok hs hK_123 N _ _ _ _ _ _ _ h Q hw
theorem f_X10_ask_123_ok {Γ : GX} (hs : SF Γ) {N : Nat} : ∀ (n : Nat) (l0 : Nat) (l1 : Int32) (l2 : Int32) (l3 : Int32) (l4 : Int32) (l5 : Int32) (h : PH) (Q : Int32 → PH → Prop), wp (f_X10_ask_123 N n l0 l1 l2 l3 l4 l5 h) Q → G Γ yX10_ask cX10_ask 9 (some .int) (48, 0, 0) 123 [some (.ref l0), some (.int l1), some (.int l2), some (.int l3), some (.int l4), some (.int l5), none, none, none] [] h (0, 0) (q_i Q)
  | 0, _, _, _, _, _, _, _, Q, hw => (wp_no hw).elim
  | n + 1, l0, l1, l2, l3, l4, l5, h, Q, hw => f_X10_ask_123_bok (N := N) hs (f_X10_ask_123_ok (N := N) hs n) l0 l1 l2 l3 l4 l5 h Q hw
set_option maxHeartbeats 4000000 in
set_option maxRecDepth 100000 in
theorem f_X10_ask_14_bok {Γ : GX} (hs : SF Γ) {N : Nat} {K_14 : Nat → Int32 → Int32 → Int32 → PH → Option (Int32 × PH)} (hK_14 : ∀ (l0 : Nat) (l1 : Int32) (l2 : Int32) (l3 : Int32) (h : PH) (Q : Int32 → PH → Prop), wp (K_14 l0 l1 l2 l3 h) Q → G Γ yX10_ask cX10_ask 9 (some .int) (48, 0, 0) 14 [some (.ref l0), some (.int l1), some (.int l2), some (.int l3), none, none, none, none, none] [] h (0, 0) (q_i Q)) (l0 : Nat) (l1 : Int32) (l2 : Int32) (l3 : Int32) (h : PH) (Q : Int32 → PH → Prop) (hw : wp (f_X10_ask_14_b N K_14 l0 l1 l2 l3 h) Q) : G Γ yX10_ask cX10_ask 9 (some .int) (48, 0, 0) 14 [some (.ref l0), some (.int l1), some (.int l2), some (.int l3), none, none, none, none, none] [] h (0, 0) (q_i Q) := by
  unfold f_X10_ask_14_b at hw
  refine G_iload_n dX10_ask_14 rfl ?_
  refine G_iload_n dX10_ask_15 rfl ?_
  have hw := wp_if hw
  refine G_icmp_ge (tgt := 115) dX10_ask_16 rfl (fun c1 => ?_) (fun c1 => ?_)
  · have hw := hw.1 c1
    refine G_iload_n dX10_ask_115 rfl ?_
    refine G_istore_n (lv' := [some (.ref l0), some (.int l1), some (.int l2), some (.int l2), none, none, none, none, none]) dX10_ask_116 (Nat.le_of_ble_eq_true rfl) rfl ?_
    refine G_iconst (v := (-1 : Int32)) dX10_ask_117 (by decide) ?_
    refine G_istore (lv' := [some (.ref l0), some (.int l1), some (.int l2), some (.int l2), some (.int (-1 : Int32)), none, none, none, none]) dX10_ask_118 (Nat.le_of_ble_eq_true rfl) rfl ?_
    refine G_iconst (v := (0 : Int32)) dX10_ask_120 (by decide) ?_
    refine G_istore (lv' := [some (.ref l0), some (.int l1), some (.int l2), some (.int l2), some (.int (-1 : Int32)), some (.int (0 : Int32)), none, none, none]) dX10_ask_121 (Nat.le_of_ble_eq_true rfl) rfl ?_
    refine G.less [some (.ref l0), some (.int l1), some (.int l2), some (.int l2), some (.int (-1 : Int32)), some (.int (0 : Int32)), none, none, none] ⟨rfl, ⟨rfl, ⟨rfl, ⟨rfl, ⟨rfl, ⟨rfl, trivial⟩⟩⟩⟩⟩⟩ ?_
    exact f_X10_ask_123_ok hs N _ _ _ _ _ _ h Q hw
  · have hw := hw.2 c1
    refine G_aload_n dX10_ask_19 rfl ?_
    obtain ⟨c2, hw⟩ := wp_ck hw
    refine G_getR fl_X10_walk w_503 dX10_ask_20 c2 ?_
    obtain ⟨a3, ea3, hw⟩ := wp_rq hw
    refine G.sure ea3 ?_
    refine G_aload_n dX10_ask_23 rfl ?_
    refine G_getR fl_X10_valley w_507 dX10_ask_24 c2 ?_
    obtain ⟨a4, ea4, hw⟩ := wp_rq hw
    refine G.sure ea4 ?_
    refine G_aload_n dX10_ask_27 rfl ?_
    refine G_getR fl_X10_now w_498 dX10_ask_28 c2 ?_
    obtain ⟨a5, ea5, hw⟩ := wp_rq hw
    refine G.sure ea5 ?_
    refine G_iload_n dX10_ask_31 rfl ?_
    obtain ⟨c8, hw⟩ := wp_ck hw
    refine G_callV (As := [.ref a4, .ref a5, .int l3]) (s_X8_byRead hs a3 a4 a5 l3 h _ (wp_cl hw)) ca_X8_byRead w_1219 w_1220 (ci := 8) rfl (by decide) w_1218 c8 (Nat.le_of_ble_eq_true rfl) (Nat.le_of_ble_eq_true rfl) rfl (Nat.le_of_ble_eq_true rfl) (Nat.le_of_ble_eq_true rfl) (Nat.le_of_ble_eq_true rfl) dX10_ask_32 rfl (fun v h7 hq => ?_)
    obtain ⟨rfl, hw⟩ := hq
    refine G.cse (cs' := (0, 0)) rfl ?_
    show GZ _ _ _ _ _ _ _ 35 _ [] _ _
    refine G_aload_n dX10_ask_35 rfl ?_
    obtain ⟨c9, hw⟩ := wp_ck hw
    refine G_getR fl_X10_flueWays w_505 dX10_ask_36 c9 ?_
    obtain ⟨a10, ea10, hw⟩ := wp_rq hw
    refine G.sure ea10 ?_
    refine G_iload_n dX10_ask_39 rfl ?_
    refine G_aload_n dX10_ask_40 rfl ?_
    refine G_getR fl_X10_walk w_503 dX10_ask_41 c9 ?_
    obtain ⟨a11, ea11, hw⟩ := wp_rq hw
    refine G.sure ea11 ?_
    obtain ⟨c12, hw⟩ := wp_ck hw
    refine G_getNI fl_X8_ways w_305 dX10_ask_44 c12 ?_
    obtain ⟨c13, hw⟩ := wp_ck hw
    obtain ⟨c14, hw⟩ := wp_ck hw
    refine G_iastore dX10_ask_47 c13 c14 ?_
    refine G.nmh fun h15 eh15 => ?_
    have hw := wp_bd hw h15 eh15
    refine G_aload_n dX10_ask_48 rfl ?_
    obtain ⟨c16, hw⟩ := wp_ck hw
    refine G_getR fl_X10_flueAlike w_506 dX10_ask_49 c16 ?_
    obtain ⟨a17, ea17, hw⟩ := wp_rq hw
    refine G.sure ea17 ?_
    refine G_iload_n dX10_ask_52 rfl ?_
    refine G_iconst (v := (3 : Int32)) dX10_ask_53 (by decide) ?_
    refine G_imul dX10_ask_54 ?_
    refine G_iconst (v := (0 : Int32)) dX10_ask_55 (by decide) ?_
    refine G_iadd dX10_ask_56 ?_
    refine G_aload_n dX10_ask_57 rfl ?_
    refine G_getR fl_X10_walk w_503 dX10_ask_58 c16 ?_
    obtain ⟨a18, ea18, hw⟩ := wp_rq hw
    refine G.sure ea18 ?_
    obtain ⟨c19, hw⟩ := wp_ck hw
    refine G_getNI fl_X8_mostDark w_307 dX10_ask_61 c19 ?_
    obtain ⟨c20, hw⟩ := wp_ck hw
    obtain ⟨c21, hw⟩ := wp_ck hw
    refine G_iastore dX10_ask_64 c20 c21 ?_
    refine G.nmh fun h22 eh22 => ?_
    have hw := wp_bd hw h22 eh22
    refine G_aload_n dX10_ask_65 rfl ?_
    obtain ⟨c23, hw⟩ := wp_ck hw
    refine G_getR fl_X10_flueAlike w_506 dX10_ask_66 c23 ?_
    obtain ⟨a24, ea24, hw⟩ := wp_rq hw
    refine G.sure ea24 ?_
    refine G_iload_n dX10_ask_69 rfl ?_
    refine G_iconst (v := (3 : Int32)) dX10_ask_70 (by decide) ?_
    refine G_imul dX10_ask_71 ?_
    refine G_iconst (v := (1 : Int32)) dX10_ask_72 (by decide) ?_
    refine G_iadd dX10_ask_73 ?_
    refine G_aload_n dX10_ask_74 rfl ?_
    refine G_getR fl_X10_walk w_503 dX10_ask_75 c23 ?_
    obtain ⟨a25, ea25, hw⟩ := wp_rq hw
    refine G.sure ea25 ?_
    obtain ⟨c26, hw⟩ := wp_ck hw
    refine G_getNI fl_X8_mostSweet w_309 dX10_ask_78 c26 ?_
    obtain ⟨c27, hw⟩ := wp_ck hw
    obtain ⟨c28, hw⟩ := wp_ck hw
    refine G_iastore dX10_ask_81 c27 c28 ?_
    refine G.nmh fun h29 eh29 => ?_
    have hw := wp_bd hw h29 eh29
    refine G_aload_n dX10_ask_82 rfl ?_
    obtain ⟨c30, hw⟩ := wp_ck hw
    refine G_getR fl_X10_flueAlike w_506 dX10_ask_83 c30 ?_
    obtain ⟨a31, ea31, hw⟩ := wp_rq hw
    refine G.sure ea31 ?_
    refine G_iload_n dX10_ask_86 rfl ?_
    refine G_iconst (v := (3 : Int32)) dX10_ask_87 (by decide) ?_
    refine G_imul dX10_ask_88 ?_
    refine G_iconst (v := (2 : Int32)) dX10_ask_89 (by decide) ?_
    refine G_iadd dX10_ask_90 ?_
    refine G_aload_n dX10_ask_91 rfl ?_
    refine G_getR fl_X10_walk w_503 dX10_ask_92 c30 ?_
    obtain ⟨a32, ea32, hw⟩ := wp_rq hw
    refine G.sure ea32 ?_
    obtain ⟨c33, hw⟩ := wp_ck hw
    refine G_getNI fl_X8_mostSign w_311 dX10_ask_95 c33 ?_
    obtain ⟨c34, hw⟩ := wp_ck hw
    obtain ⟨c35, hw⟩ := wp_ck hw
    refine G_iastore dX10_ask_98 c34 c35 ?_
    refine G.nmh fun h36 eh36 => ?_
    have hw := wp_bd hw h36 eh36
    refine G_iload_n dX10_ask_99 rfl ?_
    refine G_aload_n dX10_ask_100 rfl ?_
    obtain ⟨c37, hw⟩ := wp_ck hw
    refine G_getR fl_X10_walk w_503 dX10_ask_101 c37 ?_
    obtain ⟨a38, ea38, hw⟩ := wp_rq hw
    refine G.sure ea38 ?_
    obtain ⟨c39, hw⟩ := wp_ck hw
    refine G_getNI fl_X8_ways w_305 dX10_ask_104 c39 ?_
    refine G_imul dX10_ask_107 ?_
    refine G.topi fun v40 ev40 => ?_
    have hw := wp_bd hw v40 ev40
    refine G_istore_n (lv' := [some (.ref l0), some (.int l1), some (.int v40), some (.int l3), none, none, none, none, none]) dX10_ask_108 (Nat.le_of_ble_eq_true rfl) rfl ?_
    obtain ⟨v41, ev41⟩ : ∃ z : Int32, z = l3 + (1 : Int32) := ⟨_, rfl⟩
    have hw := wp_bd hw v41 ev41
    refine G_iinc (v := v41) (lv' := [some (.ref l0), some (.int l1), some (.int v40), some (.int v41), none, none, none, none, none]) dX10_ask_109 rfl (by rw [ev41]; rfl) (Nat.le_of_ble_eq_true rfl) rfl ?_
    refine G_goto (tgt := 14) dX10_ask_112 rfl ?_
    refine G.less [some (.ref l0), some (.int l1), some (.int v40), some (.int v41), none, none, none, none, none] ⟨rfl, ⟨rfl, ⟨rfl, ⟨rfl, trivial⟩⟩⟩⟩ ?_
    exact hK_14 _ _ _ _ h36 Q hw
theorem f_X10_ask_14_ok {Γ : GX} (hs : SF Γ) {N : Nat} : ∀ (n : Nat) (l0 : Nat) (l1 : Int32) (l2 : Int32) (l3 : Int32) (h : PH) (Q : Int32 → PH → Prop), wp (f_X10_ask_14 N n l0 l1 l2 l3 h) Q → G Γ yX10_ask cX10_ask 9 (some .int) (48, 0, 0) 14 [some (.ref l0), some (.int l1), some (.int l2), some (.int l3), none, none, none, none, none] [] h (0, 0) (q_i Q)
  | 0, _, _, _, _, _, Q, hw => (wp_no hw).elim
  | n + 1, l0, l1, l2, l3, h, Q, hw => f_X10_ask_14_bok (N := N) hs (f_X10_ask_14_ok (N := N) hs n) l0 l1 l2 l3 h Q hw
set_option maxHeartbeats 4000000 in
set_option maxRecDepth 100000 in
theorem s_X10_ask {Γ : GX} (hs : SF Γ) {N : Nat} (l0 : Nat) (h : PH) (Q : Int32 → PH → Prop) (hw : wp (f_X10_ask N l0 h) Q) : Spec Γ yX10_ask cX10_ask 9 (some .int) (48, 0, 0) [.ref l0] h (q_i Q) := by
  refine Spec.of (by decide) (Nat.le_of_ble_eq_true rfl) [some (.ref l0), none, none, none, none, none, none, none, none] rfl ?_
  unfold f_X10_ask at hw
  refine G_aload_n dX10_ask_0 rfl ?_
  obtain ⟨c1, hw⟩ := wp_ck hw
  refine G_getR fl_X10_valley w_507 dX10_ask_1 c1 ?_
  obtain ⟨a2, ea2, hw⟩ := wp_rq hw
  refine G.sure ea2 ?_
  obtain ⟨c3, hw⟩ := wp_ck hw
  refine G_getNR fl_X6_many w_431 dX10_ask_4 c3 ?_
  obtain ⟨a4, ea4, hw⟩ := wp_rq hw
  refine G.sure ea4 ?_
  refine G_iconst (v := (1 : Int32)) dX10_ask_7 (by decide) ?_
  obtain ⟨c5, hw⟩ := wp_ck hw
  obtain ⟨c6, hw⟩ := wp_ck hw
  refine G_ialoadK (k := 1) dX10_ask_8 c5 (by decide) rfl c6 ?_
  refine G.topi fun v7 ev7 => ?_
  have hw := wp_bd hw v7 ev7
  refine G_istore_n (lv' := [some (.ref l0), some (.int v7), none, none, none, none, none, none, none]) dX10_ask_9 (Nat.le_of_ble_eq_true rfl) rfl ?_
  refine G_iconst (v := (1 : Int32)) dX10_ask_10 (by decide) ?_
  refine G_istore_n (lv' := [some (.ref l0), some (.int v7), some (.int (1 : Int32)), none, none, none, none, none, none]) dX10_ask_11 (Nat.le_of_ble_eq_true rfl) rfl ?_
  refine G_iconst (v := (0 : Int32)) dX10_ask_12 (by decide) ?_
  refine G_istore_n (lv' := [some (.ref l0), some (.int v7), some (.int (1 : Int32)), some (.int (0 : Int32)), none, none, none, none, none]) dX10_ask_13 (Nat.le_of_ble_eq_true rfl) rfl ?_
  refine G.less [some (.ref l0), some (.int v7), some (.int (1 : Int32)), some (.int (0 : Int32)), none, none, none, none, none] ⟨rfl, ⟨rfl, ⟨rfl, ⟨rfl, trivial⟩⟩⟩⟩ ?_
  exact f_X10_ask_14_ok hs N _ _ _ _ h Q hw
set_option maxHeartbeats 4000000 in
set_option maxRecDepth 100000 in
theorem s_X6_overlap {Γ : GX} (hs : SF Γ) {N : Nat} (l0 : Nat) (l1 : Int32) (l2 : Int32) (l3 : Int32) (h : PH) (Q : Int32 → PH → Prop) (hw : wp (f_X6_overlap N l0 l1 l2 l3 h) Q) : Spec Γ yX6_overlap cX6_overlap 6 (some .boolean) (1, 0, 0) [.ref l0, .int l1, .int l2, .int l3] h (q_i Q) := by
  refine Spec.of (by decide) (Nat.le_of_ble_eq_true rfl) [some (.ref l0), some (.int l1), some (.int l2), some (.int l3), none, none] rfl ?_
  unfold f_X6_overlap at hw
  refine G_iload_n dX6_overlap_0 rfl ?_
  refine G_iconst (v := (4 : Int32)) dX6_overlap_1 (by decide) ?_
  refine G_imul dX6_overlap_2 ?_
  refine G_iload_n dX6_overlap_3 rfl ?_
  refine G_iconst (v := (2 : Int32)) dX6_overlap_4 (by decide) ?_
  refine G_imul dX6_overlap_5 ?_
  refine G_iadd dX6_overlap_6 ?_
  refine G.topi fun v1 ev1 => ?_
  have hw := wp_bd hw v1 ev1
  refine G_istore (lv' := [some (.ref l0), some (.int l1), some (.int l2), some (.int l3), some (.int v1), none]) dX6_overlap_7 (Nat.le_of_ble_eq_true rfl) rfl ?_
  refine G_iload_n dX6_overlap_9 rfl ?_
  refine G_iconst (v := (4 : Int32)) dX6_overlap_10 (by decide) ?_
  refine G_imul dX6_overlap_11 ?_
  refine G_iload_n dX6_overlap_12 rfl ?_
  refine G_iconst (v := (2 : Int32)) dX6_overlap_13 (by decide) ?_
  refine G_imul dX6_overlap_14 ?_
  refine G_iadd dX6_overlap_15 ?_
  refine G.topi fun v2 ev2 => ?_
  have hw := wp_bd hw v2 ev2
  refine G_istore (lv' := [some (.ref l0), some (.int l1), some (.int l2), some (.int l3), some (.int v1), some (.int v2)]) dX6_overlap_16 (Nat.le_of_ble_eq_true rfl) rfl ?_
  refine G_aload_n dX6_overlap_18 rfl ?_
  obtain ⟨c3, hw⟩ := wp_ck hw
  refine G_getR fl_X6_ranges w_451 dX6_overlap_19 c3 ?_
  obtain ⟨a4, ea4, hw⟩ := wp_rq hw
  refine G.sure ea4 ?_
  refine G_iload dX6_overlap_22 rfl ?_
  obtain ⟨c5, hw⟩ := wp_ck hw
  obtain ⟨c6, hw⟩ := wp_ck hw
  refine G_iaload dX6_overlap_24 c5 c6 ?_
  refine G_aload_n dX6_overlap_25 rfl ?_
  refine G_getR fl_X6_ranges w_451 dX6_overlap_26 c3 ?_
  obtain ⟨a7, ea7, hw⟩ := wp_rq hw
  refine G.sure ea7 ?_
  refine G_iload dX6_overlap_29 rfl ?_
  refine G_iconst (v := (1 : Int32)) dX6_overlap_31 (by decide) ?_
  refine G_iadd dX6_overlap_32 ?_
  obtain ⟨c8, hw⟩ := wp_ck hw
  obtain ⟨c9, hw⟩ := wp_ck hw
  refine G_iaload dX6_overlap_33 c8 c9 ?_
  have hw := wp_if hw
  refine G_icmp_gt (tgt := 60) dX6_overlap_34 rfl (fun c10 => ?_) (fun c10 => ?_)
  · have hw := hw.1 c10
    refine G_iconst (v := (0 : Int32)) dX6_overlap_60 (by decide) ?_
    exact G_zreturn rfl dX6_overlap_61 rfl ⟨_, rfl, wp_ret hw⟩
  · have hw := hw.2 c10
    refine G_aload_n dX6_overlap_37 rfl ?_
    refine G_getR fl_X6_ranges w_451 dX6_overlap_38 c3 ?_
    obtain ⟨a11, ea11, hw⟩ := wp_rq hw
    refine G.sure ea11 ?_
    refine G_iload dX6_overlap_41 rfl ?_
    obtain ⟨c12, hw⟩ := wp_ck hw
    obtain ⟨c13, hw⟩ := wp_ck hw
    refine G_iaload dX6_overlap_43 c12 c13 ?_
    refine G_aload_n dX6_overlap_44 rfl ?_
    refine G_getR fl_X6_ranges w_451 dX6_overlap_45 c3 ?_
    obtain ⟨a14, ea14, hw⟩ := wp_rq hw
    refine G.sure ea14 ?_
    refine G_iload dX6_overlap_48 rfl ?_
    refine G_iconst (v := (1 : Int32)) dX6_overlap_50 (by decide) ?_
    refine G_iadd dX6_overlap_51 ?_
    obtain ⟨c15, hw⟩ := wp_ck hw
    obtain ⟨c16, hw⟩ := wp_ck hw
    refine G_iaload dX6_overlap_52 c15 c16 ?_
    have hw := wp_if hw
    refine G_icmp_gt (tgt := 60) dX6_overlap_53 rfl (fun c17 => ?_) (fun c17 => ?_)
    · have hw := hw.1 c17
      refine G_iconst (v := (0 : Int32)) dX6_overlap_60 (by decide) ?_
      exact G_zreturn rfl dX6_overlap_61 rfl ⟨_, rfl, wp_ret hw⟩
    · have hw := hw.2 c17
      refine G_iconst (v := (1 : Int32)) dX6_overlap_56 (by decide) ?_
      refine G_goto (tgt := 61) dX6_overlap_57 rfl ?_
      exact G_zreturn rfl dX6_overlap_61 rfl ⟨_, rfl, wp_ret hw⟩
set_option maxHeartbeats 4000000 in
set_option maxRecDepth 100000 in
theorem f_X10_blur_115_ok {Γ : GX} (hs : SF Γ) {N : Nat} {K_60 : Nat → Int32 → Int32 → Int32 → Int32 → PH → Option (Int32 × PH)} (hK_60 : ∀ (l0 : Nat) (l3 : Int32) (l4 : Int32) (l5 : Int32) (l6 : Int32) (h : PH) (Q : Int32 → PH → Prop), wp (K_60 l0 l3 l4 l5 l6 h) Q → G Γ yX10_blur cX10_blur 8 (some .int) (2, 0, 0) 60 [some (.ref l0), none, none, some (.int l3), some (.int l4), some (.int l5), some (.int l6), none] [] h (0, 0) (q_i Q)) (l0 : Nat) (l3 : Int32) (l4 : Int32) (l5 : Int32) (l6 : Int32) (h : PH) (Q : Int32 → PH → Prop) (hw : wp (f_X10_blur_115 N K_60 l0 l3 l4 l5 l6 h) Q) : G Γ yX10_blur cX10_blur 8 (some .int) (2, 0, 0) 115 [some (.ref l0), none, none, some (.int l3), some (.int l4), some (.int l5), some (.int l6), none] [] h (0, 0) (q_i Q) := by
  unfold f_X10_blur_115 at hw
  obtain ⟨v1, ev1⟩ : ∃ z : Int32, z = l6 + (1 : Int32) := ⟨_, rfl⟩
  have hw := wp_bd hw v1 ev1
  refine G_iinc (v := v1) (lv' := [some (.ref l0), none, none, some (.int l3), some (.int l4), some (.int l5), some (.int v1), none]) dX10_blur_115 rfl (by rw [ev1]; rfl) (Nat.le_of_ble_eq_true rfl) rfl ?_
  refine G_goto (tgt := 60) dX10_blur_118 rfl ?_
  refine G.less [some (.ref l0), none, none, some (.int l3), some (.int l4), some (.int l5), some (.int v1), none] ⟨rfl, ⟨rfl, ⟨rfl, ⟨rfl, ⟨rfl, trivial⟩⟩⟩⟩⟩ ?_
  exact hK_60 _ _ _ _ _ h Q hw
set_option maxHeartbeats 4000000 in
set_option maxRecDepth 100000 in
theorem f_X10_blur_106_ok {Γ : GX} (hs : SF Γ) {N : Nat} {K_60 : Nat → Int32 → Int32 → Int32 → Int32 → PH → Option (Int32 × PH)} (hK_60 : ∀ (l0 : Nat) (l3 : Int32) (l4 : Int32) (l5 : Int32) (l6 : Int32) (h : PH) (Q : Int32 → PH → Prop), wp (K_60 l0 l3 l4 l5 l6 h) Q → G Γ yX10_blur cX10_blur 8 (some .int) (2, 0, 0) 60 [some (.ref l0), none, none, some (.int l3), some (.int l4), some (.int l5), some (.int l6), none] [] h (0, 0) (q_i Q)) (l0 : Nat) (l3 : Int32) (l4 : Int32) (l5 : Int32) (l6 : Int32) (h : PH) (Q : Int32 → PH → Prop) (hw : wp (f_X10_blur_106 N K_60 l0 l3 l4 l5 l6 h) Q) : G Γ yX10_blur cX10_blur 8 (some .int) (2, 0, 0) 106 [some (.ref l0), none, none, some (.int l3), some (.int l4), some (.int l5), some (.int l6), none] [] h (0, 0) (q_i Q) := by
  unfold f_X10_blur_106 at hw
  refine G_iload dX10_blur_106 rfl ?_
  refine G_iconst (v := (1 : Int32)) dX10_blur_108 (by decide) ?_
  refine G_iload dX10_blur_109 rfl ?_
  refine G_ishl dX10_blur_111 ?_
  refine G_ior dX10_blur_112 ?_
  refine G.topi fun v1 ev1 => ?_
  have hw := wp_bd hw v1 ev1
  refine G_istore (lv' := [some (.ref l0), none, none, some (.int l3), some (.int l4), some (.int v1), some (.int l6), none]) dX10_blur_113 (Nat.le_of_ble_eq_true rfl) rfl ?_
  refine G.less [some (.ref l0), none, none, some (.int l3), some (.int l4), some (.int v1), some (.int l6), none] ⟨rfl, ⟨rfl, ⟨rfl, ⟨rfl, ⟨rfl, trivial⟩⟩⟩⟩⟩ ?_
  exact f_X10_blur_115_ok hs hK_60 _ _ _ _ _ h Q hw
set_option maxHeartbeats 4000000 in
set_option maxRecDepth 100000 in
theorem f_X10_blur_96_ok {Γ : GX} (hs : SF Γ) {N : Nat} {K_60 : Nat → Int32 → Int32 → Int32 → Int32 → PH → Option (Int32 × PH)} (hK_60 : ∀ (l0 : Nat) (l3 : Int32) (l4 : Int32) (l5 : Int32) (l6 : Int32) (h : PH) (Q : Int32 → PH → Prop), wp (K_60 l0 l3 l4 l5 l6 h) Q → G Γ yX10_blur cX10_blur 8 (some .int) (2, 0, 0) 60 [some (.ref l0), none, none, some (.int l3), some (.int l4), some (.int l5), some (.int l6), none] [] h (0, 0) (q_i Q)) (l0 : Nat) (l3 : Int32) (l4 : Int32) (l5 : Int32) (l6 : Int32) (l7 : Int32) (h : PH) (Q : Int32 → PH → Prop) (hw : wp (f_X10_blur_96 N K_60 l0 l3 l4 l5 l6 l7 h) Q) : G Γ yX10_blur cX10_blur 8 (some .int) (2, 0, 0) 96 [some (.ref l0), none, none, some (.int l3), some (.int l4), some (.int l5), some (.int l6), some (.int l7)] [] h (0, 0) (q_i Q) := by
  unfold f_X10_blur_96 at hw
  refine G_iload dX10_blur_96 rfl ?_
  have hw := wp_if hw
  refine G_if_ne (tgt := 106) dX10_blur_98 rfl (fun c1 => ?_) (fun c1 => ?_)
  · have hw := hw.2 c1
    refine G.less [some (.ref l0), none, none, some (.int l3), some (.int l4), some (.int l5), some (.int l6), none] ⟨rfl, ⟨rfl, ⟨rfl, ⟨rfl, ⟨rfl, trivial⟩⟩⟩⟩⟩ ?_
    exact f_X10_blur_106_ok hs hK_60 _ _ _ _ _ h Q hw
  · have hw := hw.1 c1
    refine G_iload dX10_blur_101 rfl ?_
    have hw := wp_if hw
    refine G_if_ne (tgt := 115) dX10_blur_103 rfl (fun c2 => ?_) (fun c2 => ?_)
    · have hw := hw.2 c2
      refine G.less [some (.ref l0), none, none, some (.int l3), some (.int l4), some (.int l5), some (.int l6), none] ⟨rfl, ⟨rfl, ⟨rfl, ⟨rfl, ⟨rfl, trivial⟩⟩⟩⟩⟩ ?_
      exact f_X10_blur_115_ok hs hK_60 _ _ _ _ _ h Q hw
    · have hw := hw.1 c2
      refine G.less [some (.ref l0), none, none, some (.int l3), some (.int l4), some (.int l5), some (.int l6), none] ⟨rfl, ⟨rfl, ⟨rfl, ⟨rfl, ⟨rfl, trivial⟩⟩⟩⟩⟩ ?_
      exact f_X10_blur_106_ok hs hK_60 _ _ _ _ _ h Q hw
set_option maxHeartbeats 4000000 in
set_option maxRecDepth 100000 in
theorem f_X10_blur_60_bok {Γ : GX} (hs : SF Γ) {N : Nat} {K_60 : Nat → Int32 → Int32 → Int32 → Int32 → PH → Option (Int32 × PH)} (hK_60 : ∀ (l0 : Nat) (l3 : Int32) (l4 : Int32) (l5 : Int32) (l6 : Int32) (h : PH) (Q : Int32 → PH → Prop), wp (K_60 l0 l3 l4 l5 l6 h) Q → G Γ yX10_blur cX10_blur 8 (some .int) (2, 0, 0) 60 [some (.ref l0), none, none, some (.int l3), some (.int l4), some (.int l5), some (.int l6), none] [] h (0, 0) (q_i Q)) (l0 : Nat) (l3 : Int32) (l4 : Int32) (l5 : Int32) (l6 : Int32) (h : PH) (Q : Int32 → PH → Prop) (hw : wp (f_X10_blur_60_b N K_60 l0 l3 l4 l5 l6 h) Q) : G Γ yX10_blur cX10_blur 8 (some .int) (2, 0, 0) 60 [some (.ref l0), none, none, some (.int l3), some (.int l4), some (.int l5), some (.int l6), none] [] h (0, 0) (q_i Q) := by
  unfold f_X10_blur_60_b at hw
  refine G_iload dX10_blur_60 rfl ?_
  refine G_aload_n dX10_blur_62 rfl ?_
  obtain ⟨c1, hw⟩ := wp_ck hw
  refine G_getR fl_X10_valley w_507 dX10_blur_63 c1 ?_
  obtain ⟨a2, ea2, hw⟩ := wp_rq hw
  refine G.sure ea2 ?_
  obtain ⟨c3, hw⟩ := wp_ck hw
  refine G_getNR fl_X6_many w_431 dX10_blur_66 c3 ?_
  obtain ⟨a4, ea4, hw⟩ := wp_rq hw
  refine G.sure ea4 ?_
  refine G_iconst (v := (4 : Int32)) dX10_blur_69 (by decide) ?_
  obtain ⟨c5, hw⟩ := wp_ck hw
  obtain ⟨c6, hw⟩ := wp_ck hw
  refine G_ialoadK (k := 4) dX10_blur_70 c5 (by decide) rfl c6 ?_
  have hw := wp_if hw
  refine G_icmp_ge (tgt := 121) dX10_blur_71 rfl (fun c7 => ?_) (fun c7 => ?_)
  · have hw := hw.1 c7
    refine G_iload dX10_blur_121 rfl ?_
    exact G_ireturn rfl dX10_blur_123 ⟨_, rfl, wp_ret hw⟩
  · have hw := hw.2 c7
    refine G_aload_n dX10_blur_74 rfl ?_
    refine G_getR fl_X10_valley w_507 dX10_blur_75 c1 ?_
    obtain ⟨a8, ea8, hw⟩ := wp_rq hw
    refine G.sure ea8 ?_
    obtain ⟨c9, hw⟩ := wp_ck hw
    refine G_getNR fl_X6_sights w_456 dX10_blur_78 c9 ?_
    obtain ⟨a10, ea10, hw⟩ := wp_rq hw
    refine G.sure ea10 ?_
    refine G_iload dX10_blur_81 rfl ?_
    obtain ⟨c11, hw⟩ := wp_ck hw
    obtain ⟨c12, hw⟩ := wp_ck hw
    refine G_iaload dX10_blur_83 c11 c12 ?_
    refine G.topi fun v13 ev13 => ?_
    have hw := wp_bd hw v13 ev13
    refine G_istore (lv' := [some (.ref l0), none, none, some (.int l3), some (.int l4), some (.int l5), some (.int l6), some (.int v13)]) dX10_blur_84 (Nat.le_of_ble_eq_true rfl) rfl ?_
    refine G_iload_n dX10_blur_86 rfl ?_
    have hw := wp_if hw
    refine G_if_ne (tgt := 96) dX10_blur_87 rfl (fun c14 => ?_) (fun c14 => ?_)
    · have hw := hw.2 c14
      refine G.less [some (.ref l0), none, none, some (.int l3), some (.int l4), some (.int l5), some (.int l6), some (.int v13)] ⟨rfl, ⟨rfl, ⟨rfl, ⟨rfl, ⟨rfl, ⟨rfl, trivial⟩⟩⟩⟩⟩⟩ ?_
      exact f_X10_blur_96_ok hs hK_60 _ _ _ _ _ _ h Q hw
    · have hw := hw.1 c14
      refine G_iload dX10_blur_90 rfl ?_
      refine G_iconst (v := (1 : Int32)) dX10_blur_92 (by decide) ?_
      have hw := wp_if hw
      refine G_icmp_ne (tgt := 115) dX10_blur_93 rfl (fun c15 => ?_) (fun c15 => ?_)
      · have hw := hw.2 c15
        refine G.less [some (.ref l0), none, none, some (.int l3), some (.int l4), some (.int l5), some (.int l6), none] ⟨rfl, ⟨rfl, ⟨rfl, ⟨rfl, ⟨rfl, trivial⟩⟩⟩⟩⟩ ?_
        exact f_X10_blur_115_ok hs hK_60 _ _ _ _ _ h Q hw
      · have hw := hw.1 c15
        refine G.less [some (.ref l0), none, none, some (.int l3), some (.int l4), some (.int l5), some (.int l6), some (.int v13)] ⟨rfl, ⟨rfl, ⟨rfl, ⟨rfl, ⟨rfl, ⟨rfl, trivial⟩⟩⟩⟩⟩⟩ ?_
        exact f_X10_blur_96_ok hs hK_60 _ _ _ _ _ _ h Q hw
theorem f_X10_blur_60_ok {Γ : GX} (hs : SF Γ) {N : Nat} : ∀ (n : Nat) (l0 : Nat) (l3 : Int32) (l4 : Int32) (l5 : Int32) (l6 : Int32) (h : PH) (Q : Int32 → PH → Prop), wp (f_X10_blur_60 N n l0 l3 l4 l5 l6 h) Q → G Γ yX10_blur cX10_blur 8 (some .int) (2, 0, 0) 60 [some (.ref l0), none, none, some (.int l3), some (.int l4), some (.int l5), some (.int l6), none] [] h (0, 0) (q_i Q)
  | 0, _, _, _, _, _, _, Q, hw => (wp_no hw).elim
  | n + 1, l0, l3, l4, l5, l6, h, Q, hw => f_X10_blur_60_bok (N := N) hs (f_X10_blur_60_ok (N := N) hs n) l0 l3 l4 l5 l6 h Q hw
set_option maxHeartbeats 4000000 in
set_option maxRecDepth 100000 in
theorem s_X10_blur {Γ : GX} (hs : SF Γ) {N : Nat} (l0 : Nat) (l1 : Int32) (l2 : Int32) (h : PH) (Q : Int32 → PH → Prop) (hw : wp (f_X10_blur N l0 l1 l2 h) Q) : Spec Γ yX10_blur cX10_blur 8 (some .int) (2, 0, 0) [.ref l0, .int l1, .int l2] h (q_i Q) := by
  refine Spec.of (by decide) (Nat.le_of_ble_eq_true rfl) [some (.ref l0), some (.int l1), some (.int l2), none, none, none, none, none] rfl ?_
  unfold f_X10_blur at hw
  refine G_aload_n dX10_blur_0 rfl ?_
  obtain ⟨c1, hw⟩ := wp_ck hw
  refine G_getR fl_X10_valley w_507 dX10_blur_1 c1 ?_
  obtain ⟨a2, ea2, hw⟩ := wp_rq hw
  refine G.sure ea2 ?_
  refine G_iconst (v := (3 : Int32)) dX10_blur_4 (by decide) ?_
  refine G_iload_n dX10_blur_5 rfl ?_
  obtain ⟨c5, hw⟩ := wp_ck hw
  refine G_callV (As := [.int (3 : Int32), .int l1]) (s_X6_has hs a2 (3 : Int32) l1 h _ (wp_cl hw)) ca_X6_has w_955 w_956 (ci := 6) rfl (by decide) w_954 c5 (Nat.le_of_ble_eq_true rfl) (Nat.le_of_ble_eq_true rfl) rfl (Nat.le_of_ble_eq_true rfl) (Nat.le_of_ble_eq_true rfl) (Nat.le_of_ble_eq_true rfl) dX10_blur_6 rfl (fun v h4 hq => ?_)
  obtain ⟨r3, rfl, hw⟩ := hq
  refine G.cse (cs' := (0, 0)) rfl ?_
  show GZ _ _ _ _ _ _ _ 9 _ (.int r3 :: []) _ _
  have hw := wp_if hw
  refine G_if_eq (tgt := 29) dX10_blur_9 rfl (fun c6 => ?_) (fun c6 => ?_)
  · have hw := hw.1 c6
    refine G_iconst (v := (-1 : Int32)) dX10_blur_29 (by decide) ?_
    exact G_ireturn rfl dX10_blur_30 ⟨_, rfl, wp_ret hw⟩
  · have hw := hw.2 c6
    refine G_aload_n dX10_blur_12 rfl ?_
    obtain ⟨c7, hw⟩ := wp_ck hw
    refine G_getR fl_X10_valley w_507 dX10_blur_13 c7 ?_
    obtain ⟨a8, ea8, hw⟩ := wp_rq hw
    refine G.sure ea8 ?_
    refine G_iconst (v := (3 : Int32)) dX10_blur_16 (by decide) ?_
    refine G_iload_n dX10_blur_17 rfl ?_
    obtain ⟨c11, hw⟩ := wp_ck hw
    refine G_callV (As := [.int (3 : Int32), .int l2]) (s_X6_has hs a8 (3 : Int32) l2 h4 _ (wp_cl hw)) ca_X6_has w_955 w_956 (ci := 6) rfl (by decide) w_954 c11 (Nat.le_of_ble_eq_true rfl) (Nat.le_of_ble_eq_true rfl) rfl (Nat.le_of_ble_eq_true rfl) (Nat.le_of_ble_eq_true rfl) (Nat.le_of_ble_eq_true rfl) dX10_blur_18 rfl (fun v h10 hq => ?_)
    obtain ⟨r9, rfl, hw⟩ := hq
    refine G.cse (cs' := (0, 0)) rfl ?_
    show GZ _ _ _ _ _ _ _ 21 _ (.int r9 :: []) _ _
    have hw := wp_if hw
    refine G_if_eq (tgt := 29) dX10_blur_21 rfl (fun c12 => ?_) (fun c12 => ?_)
    · have hw := hw.1 c12
      refine G_iconst (v := (-1 : Int32)) dX10_blur_29 (by decide) ?_
      exact G_ireturn rfl dX10_blur_30 ⟨_, rfl, wp_ret hw⟩
    · have hw := hw.2 c12
      refine G_iload_n dX10_blur_24 rfl ?_
      refine G_iload_n dX10_blur_25 rfl ?_
      have hw := wp_if hw
      refine G_icmp_ne (tgt := 31) dX10_blur_26 rfl (fun c13 => ?_) (fun c13 => ?_)
      · have hw := hw.2 c13
        refine G_aload_n dX10_blur_31 rfl ?_
        obtain ⟨c14, hw⟩ := wp_ck hw
        refine G_getR fl_X10_valley w_507 dX10_blur_32 c14 ?_
        obtain ⟨a15, ea15, hw⟩ := wp_rq hw
        refine G.sure ea15 ?_
        refine G_iload_n dX10_blur_35 rfl ?_
        refine G_iload_n dX10_blur_36 rfl ?_
        refine G_iconst (v := (0 : Int32)) dX10_blur_37 (by decide) ?_
        obtain ⟨c18, hw⟩ := wp_ck hw
        refine G_callV (As := [.int l1, .int l2, .int (0 : Int32)]) (s_X6_overlap hs a15 l1 l2 (0 : Int32) h10 _ (wp_cl hw)) ca_X6_overlap w_1235 w_1236 (ci := 6) rfl (by decide) w_1234 c18 (Nat.le_of_ble_eq_true rfl) (Nat.le_of_ble_eq_true rfl) rfl (Nat.le_of_ble_eq_true rfl) (Nat.le_of_ble_eq_true rfl) (Nat.le_of_ble_eq_true rfl) dX10_blur_38 rfl (fun v h17 hq => ?_)
        obtain ⟨r16, rfl, hw⟩ := hq
        refine G.cse (cs' := (0, 0)) rfl ?_
        show GZ _ _ _ _ _ _ _ 41 _ (.int r16 :: []) _ _
        refine G_istore_n (lv' := [some (.ref l0), some (.int l1), some (.int l2), some (.int r16), none, none, none, none]) dX10_blur_41 (Nat.le_of_ble_eq_true rfl) rfl ?_
        refine G_aload_n dX10_blur_42 rfl ?_
        obtain ⟨c19, hw⟩ := wp_ck hw
        refine G_getR fl_X10_valley w_507 dX10_blur_43 c19 ?_
        obtain ⟨a20, ea20, hw⟩ := wp_rq hw
        refine G.sure ea20 ?_
        refine G_iload_n dX10_blur_46 rfl ?_
        refine G_iload_n dX10_blur_47 rfl ?_
        refine G_iconst (v := (1 : Int32)) dX10_blur_48 (by decide) ?_
        obtain ⟨c23, hw⟩ := wp_ck hw
        refine G_callV (As := [.int l1, .int l2, .int (1 : Int32)]) (s_X6_overlap hs a20 l1 l2 (1 : Int32) h17 _ (wp_cl hw)) ca_X6_overlap w_1235 w_1236 (ci := 6) rfl (by decide) w_1234 c23 (Nat.le_of_ble_eq_true rfl) (Nat.le_of_ble_eq_true rfl) rfl (Nat.le_of_ble_eq_true rfl) (Nat.le_of_ble_eq_true rfl) (Nat.le_of_ble_eq_true rfl) dX10_blur_49 rfl (fun v h22 hq => ?_)
        obtain ⟨r21, rfl, hw⟩ := hq
        refine G.cse (cs' := (0, 0)) rfl ?_
        show GZ _ _ _ _ _ _ _ 52 _ (.int r21 :: []) _ _
        refine G_istore (lv' := [some (.ref l0), some (.int l1), some (.int l2), some (.int r16), some (.int r21), none, none, none]) dX10_blur_52 (Nat.le_of_ble_eq_true rfl) rfl ?_
        refine G_iconst (v := (0 : Int32)) dX10_blur_54 (by decide) ?_
        refine G_istore (lv' := [some (.ref l0), some (.int l1), some (.int l2), some (.int r16), some (.int r21), some (.int (0 : Int32)), none, none]) dX10_blur_55 (Nat.le_of_ble_eq_true rfl) rfl ?_
        refine G_iconst (v := (0 : Int32)) dX10_blur_57 (by decide) ?_
        refine G_istore (lv' := [some (.ref l0), some (.int l1), some (.int l2), some (.int r16), some (.int r21), some (.int (0 : Int32)), some (.int (0 : Int32)), none]) dX10_blur_58 (Nat.le_of_ble_eq_true rfl) rfl ?_
        refine G.less [some (.ref l0), none, none, some (.int r16), some (.int r21), some (.int (0 : Int32)), some (.int (0 : Int32)), none] ⟨rfl, ⟨rfl, ⟨rfl, ⟨rfl, ⟨rfl, trivial⟩⟩⟩⟩⟩ ?_
        exact f_X10_blur_60_ok hs N _ _ _ _ _ h22 Q hw
      · have hw := hw.1 c13
        refine G_iconst (v := (-1 : Int32)) dX10_blur_29 (by decide) ?_
        exact G_ireturn rfl dX10_blur_30 ⟨_, rfl, wp_ret hw⟩
set_option maxHeartbeats 4000000 in
set_option maxRecDepth 100000 in
theorem f_X4_fires_23_ok {Γ : GX} (hs : SF Γ) {N : Nat} {K_4 : Nat → Int32 → Int32 → PH → Option (Int32 × PH)} (hK_4 : ∀ (l0 : Nat) (l1 : Int32) (l2 : Int32) (h : PH) (Q : Int32 → PH → Prop), wp (K_4 l0 l1 l2 h) Q → G Γ yX4_fires cX4_fires 3 (some .int) (2, 0, 0) 4 [some (.ref l0), some (.int l1), some (.int l2)] [] h (0, 0) (q_i Q)) (l0 : Nat) (l1 : Int32) (l2 : Int32) (h : PH) (Q : Int32 → PH → Prop) (hw : wp (f_X4_fires_23 N K_4 l0 l1 l2 h) Q) : G Γ yX4_fires cX4_fires 3 (some .int) (2, 0, 0) 23 [some (.ref l0), some (.int l1), some (.int l2)] [] h (0, 0) (q_i Q) := by
  unfold f_X4_fires_23 at hw
  obtain ⟨v1, ev1⟩ : ∃ z : Int32, z = l2 + (1 : Int32) := ⟨_, rfl⟩
  have hw := wp_bd hw v1 ev1
  refine G_iinc (v := v1) (lv' := [some (.ref l0), some (.int l1), some (.int v1)]) dX4_fires_23 rfl (by rw [ev1]; rfl) (Nat.le_of_ble_eq_true rfl) rfl ?_
  refine G_goto (tgt := 4) dX4_fires_26 rfl ?_
  refine G.less [some (.ref l0), some (.int l1), some (.int v1)] ⟨rfl, ⟨rfl, ⟨rfl, trivial⟩⟩⟩ ?_
  exact hK_4 _ _ _ h Q hw
set_option maxHeartbeats 4000000 in
set_option maxRecDepth 100000 in
theorem f_X4_fires_4_bok {Γ : GX} (hs : SF Γ) {N : Nat} {K_4 : Nat → Int32 → Int32 → PH → Option (Int32 × PH)} (hK_4 : ∀ (l0 : Nat) (l1 : Int32) (l2 : Int32) (h : PH) (Q : Int32 → PH → Prop), wp (K_4 l0 l1 l2 h) Q → G Γ yX4_fires cX4_fires 3 (some .int) (2, 0, 0) 4 [some (.ref l0), some (.int l1), some (.int l2)] [] h (0, 0) (q_i Q)) (l0 : Nat) (l1 : Int32) (l2 : Int32) (h : PH) (Q : Int32 → PH → Prop) (hw : wp (f_X4_fires_4_b N K_4 l0 l1 l2 h) Q) : G Γ yX4_fires cX4_fires 3 (some .int) (2, 0, 0) 4 [some (.ref l0), some (.int l1), some (.int l2)] [] h (0, 0) (q_i Q) := by
  unfold f_X4_fires_4_b at hw
  refine G_iload_n dX4_fires_4 rfl ?_
  refine G_iconst (v := (4 : Int32)) dX4_fires_5 (by decide) ?_
  have hw := wp_if hw
  refine G_icmp_ge (tgt := 29) dX4_fires_6 rfl (fun c1 => ?_) (fun c1 => ?_)
  · have hw := hw.1 c1
    refine G_iload_n dX4_fires_29 rfl ?_
    exact G_ireturn rfl dX4_fires_30 ⟨_, rfl, wp_ret hw⟩
  · have hw := hw.2 c1
    refine G_aload_n dX4_fires_9 rfl ?_
    refine G_iload_n dX4_fires_10 rfl ?_
    obtain ⟨c4, hw⟩ := wp_ck hw
    refine G_callV (As := [.int l2]) (s_X4_burns hs l0 l2 h _ (wp_cl hw)) ca_X4_burns w_1024 w_1025 (ci := 4) rfl (by decide) w_1023 c4 (Nat.le_of_ble_eq_true rfl) (Nat.le_of_ble_eq_true rfl) rfl (Nat.le_of_ble_eq_true rfl) (Nat.le_of_ble_eq_true rfl) (Nat.le_of_ble_eq_true rfl) dX4_fires_11 rfl (fun v h3 hq => ?_)
    obtain ⟨r2, rfl, hw⟩ := hq
    refine G.cse (cs' := (0, 0)) rfl ?_
    show GZ _ _ _ _ _ _ _ 14 _ (.int r2 :: []) _ _
    have hw := wp_if hw
    refine G_if_eq (tgt := 23) dX4_fires_14 rfl (fun c5 => ?_) (fun c5 => ?_)
    · have hw := hw.1 c5
      refine G.less [some (.ref l0), some (.int l1), some (.int l2)] ⟨rfl, ⟨rfl, ⟨rfl, trivial⟩⟩⟩ ?_
      exact f_X4_fires_23_ok hs hK_4 _ _ _ h3 Q hw
    · have hw := hw.2 c5
      refine G_iload_n dX4_fires_17 rfl ?_
      refine G_iconst (v := (1 : Int32)) dX4_fires_18 (by decide) ?_
      refine G_iload_n dX4_fires_19 rfl ?_
      refine G_ishl dX4_fires_20 ?_
      refine G_ior dX4_fires_21 ?_
      refine G.topi fun v6 ev6 => ?_
      have hw := wp_bd hw v6 ev6
      refine G_istore_n (lv' := [some (.ref l0), some (.int v6), some (.int l2)]) dX4_fires_22 (Nat.le_of_ble_eq_true rfl) rfl ?_
      refine G.less [some (.ref l0), some (.int v6), some (.int l2)] ⟨rfl, ⟨rfl, ⟨rfl, trivial⟩⟩⟩ ?_
      exact f_X4_fires_23_ok hs hK_4 _ _ _ h3 Q hw
theorem f_X4_fires_4_ok {Γ : GX} (hs : SF Γ) {N : Nat} : ∀ (n : Nat) (l0 : Nat) (l1 : Int32) (l2 : Int32) (h : PH) (Q : Int32 → PH → Prop), wp (f_X4_fires_4 N n l0 l1 l2 h) Q → G Γ yX4_fires cX4_fires 3 (some .int) (2, 0, 0) 4 [some (.ref l0), some (.int l1), some (.int l2)] [] h (0, 0) (q_i Q)
  | 0, _, _, _, _, Q, hw => (wp_no hw).elim
  | n + 1, l0, l1, l2, h, Q, hw => f_X4_fires_4_bok (N := N) hs (f_X4_fires_4_ok (N := N) hs n) l0 l1 l2 h Q hw
set_option maxHeartbeats 4000000 in
set_option maxRecDepth 100000 in
theorem s_X4_fires {Γ : GX} (hs : SF Γ) {N : Nat} (l0 : Nat) (h : PH) (Q : Int32 → PH → Prop) (hw : wp (f_X4_fires N l0 h) Q) : Spec Γ yX4_fires cX4_fires 3 (some .int) (2, 0, 0) [.ref l0] h (q_i Q) := by
  refine Spec.of (by decide) (Nat.le_of_ble_eq_true rfl) [some (.ref l0), none, none] rfl ?_
  unfold f_X4_fires at hw
  refine G_iconst (v := (0 : Int32)) dX4_fires_0 (by decide) ?_
  refine G_istore_n (lv' := [some (.ref l0), some (.int (0 : Int32)), none]) dX4_fires_1 (Nat.le_of_ble_eq_true rfl) rfl ?_
  refine G_iconst (v := (0 : Int32)) dX4_fires_2 (by decide) ?_
  refine G_istore_n (lv' := [some (.ref l0), some (.int (0 : Int32)), some (.int (0 : Int32))]) dX4_fires_3 (Nat.le_of_ble_eq_true rfl) rfl ?_
  refine G.less [some (.ref l0), some (.int (0 : Int32)), some (.int (0 : Int32))] ⟨rfl, ⟨rfl, ⟨rfl, trivial⟩⟩⟩ ?_
  exact f_X4_fires_4_ok hs N _ _ _ h Q hw
set_option maxHeartbeats 4000000 in
set_option maxRecDepth 100000 in
theorem s_J6_bitCount_0f7a4 {Γ : GX} (hs : SF Γ) {N : Nat} (l0 : Int32) (h : PH) (Q : Int32 → PH → Prop) (hw : wp (f_J6_bitCount_0f7a4 N l0 h) Q) : Spec Γ yJ6_bitCount_0f7a4 cJ6_bitCount_0f7a4 1 (some .int) (1, 0, 0) [.int l0] h (q_i Q) := by
  refine Spec.of (by decide) (Nat.le_of_ble_eq_true rfl) [some (.int l0)] rfl ?_
  unfold f_J6_bitCount_0f7a4 at hw
  refine G_iload_n dJ6_bitCount_0f7a4_0 rfl ?_
  refine G_iload_n dJ6_bitCount_0f7a4_1 rfl ?_
  refine G_iconst (v := (1 : Int32)) dJ6_bitCount_0f7a4_2 (by decide) ?_
  refine G_iushr dJ6_bitCount_0f7a4_3 ?_
  refine G_ldcw (v := (1431655765 : Int32)) dJ6_bitCount_0f7a4_4 w_1249 ?_
  refine G_iand dJ6_bitCount_0f7a4_7 ?_
  refine G_isub dJ6_bitCount_0f7a4_8 ?_
  refine G.topi fun v1 ev1 => ?_
  have hw := wp_bd hw v1 ev1
  refine G_istore_n (lv' := [some (.int v1)]) dJ6_bitCount_0f7a4_9 (Nat.le_of_ble_eq_true rfl) rfl ?_
  refine G_iload_n dJ6_bitCount_0f7a4_10 rfl ?_
  refine G_ldcw (v := (858993459 : Int32)) dJ6_bitCount_0f7a4_11 w_1250 ?_
  refine G_iand dJ6_bitCount_0f7a4_14 ?_
  refine G_iload_n dJ6_bitCount_0f7a4_15 rfl ?_
  refine G_iconst (v := (2 : Int32)) dJ6_bitCount_0f7a4_16 (by decide) ?_
  refine G_iushr dJ6_bitCount_0f7a4_17 ?_
  refine G_ldcw (v := (858993459 : Int32)) dJ6_bitCount_0f7a4_18 w_1250 ?_
  refine G_iand dJ6_bitCount_0f7a4_21 ?_
  refine G_iadd dJ6_bitCount_0f7a4_22 ?_
  refine G.topi fun v2 ev2 => ?_
  have hw := wp_bd hw v2 ev2
  refine G_istore_n (lv' := [some (.int v2)]) dJ6_bitCount_0f7a4_23 (Nat.le_of_ble_eq_true rfl) rfl ?_
  refine G_iload_n dJ6_bitCount_0f7a4_24 rfl ?_
  refine G_iload_n dJ6_bitCount_0f7a4_25 rfl ?_
  refine G_iconst (v := (4 : Int32)) dJ6_bitCount_0f7a4_26 (by decide) ?_
  refine G_iushr dJ6_bitCount_0f7a4_27 ?_
  refine G_iadd dJ6_bitCount_0f7a4_28 ?_
  refine G_ldcw (v := (252645135 : Int32)) dJ6_bitCount_0f7a4_29 w_1251 ?_
  refine G_iand dJ6_bitCount_0f7a4_32 ?_
  refine G.topi fun v3 ev3 => ?_
  have hw := wp_bd hw v3 ev3
  refine G_istore_n (lv' := [some (.int v3)]) dJ6_bitCount_0f7a4_33 (Nat.le_of_ble_eq_true rfl) rfl ?_
  refine G_iload_n dJ6_bitCount_0f7a4_34 rfl ?_
  refine G_iload_n dJ6_bitCount_0f7a4_35 rfl ?_
  refine G_bipush (v := (8 : Int32)) dJ6_bitCount_0f7a4_36 (by decide) ?_
  refine G_iushr dJ6_bitCount_0f7a4_38 ?_
  refine G_iadd dJ6_bitCount_0f7a4_39 ?_
  refine G.topi fun v4 ev4 => ?_
  have hw := wp_bd hw v4 ev4
  refine G_istore_n (lv' := [some (.int v4)]) dJ6_bitCount_0f7a4_40 (Nat.le_of_ble_eq_true rfl) rfl ?_
  refine G_iload_n dJ6_bitCount_0f7a4_41 rfl ?_
  refine G_iload_n dJ6_bitCount_0f7a4_42 rfl ?_
  refine G_bipush (v := (16 : Int32)) dJ6_bitCount_0f7a4_43 (by decide) ?_
  refine G_iushr dJ6_bitCount_0f7a4_45 ?_
  refine G_iadd dJ6_bitCount_0f7a4_46 ?_
  refine G.topi fun v5 ev5 => ?_
  have hw := wp_bd hw v5 ev5
  refine G_istore_n (lv' := [some (.int v5)]) dJ6_bitCount_0f7a4_47 (Nat.le_of_ble_eq_true rfl) rfl ?_
  refine G_iload_n dJ6_bitCount_0f7a4_48 rfl ?_
  refine G_bipush (v := (63 : Int32)) dJ6_bitCount_0f7a4_49 (by decide) ?_
  refine G_iand dJ6_bitCount_0f7a4_51 ?_
  exact G_ireturn rfl dJ6_bitCount_0f7a4_52 ⟨_, rfl, wp_ret hw⟩
set_option maxHeartbeats 4000000 in
set_option maxRecDepth 100000 in
theorem f_X10_share_185_ok {Γ : GX} (hs : SF Γ) {N : Nat} {K_98 : Nat → Int32 → Int32 → Int32 → Int32 → Int32 → PH → Option (Int32 × PH)} (hK_98 : ∀ (l0 : Nat) (l3 : Int32) (l4 : Int32) (l5 : Int32) (l6 : Int32) (l7 : Int32) (h : PH) (Q : Int32 → PH → Prop), wp (K_98 l0 l3 l4 l5 l6 l7 h) Q → G Γ yX10_share cX10_share 10 (some .int) (6, 0, 0) 98 [some (.ref l0), none, none, some (.int l3), some (.int l4), some (.int l5), some (.int l6), some (.int l7), none, none] [] h (0, 0) (q_i Q)) (l0 : Nat) (l3 : Int32) (l4 : Int32) (l5 : Int32) (l6 : Int32) (l7 : Int32) (h : PH) (Q : Int32 → PH → Prop) (hw : wp (f_X10_share_185 N K_98 l0 l3 l4 l5 l6 l7 h) Q) : G Γ yX10_share cX10_share 10 (some .int) (6, 0, 0) 185 [some (.ref l0), none, none, some (.int l3), some (.int l4), some (.int l5), some (.int l6), some (.int l7), none, none] [] h (0, 0) (q_i Q) := by
  unfold f_X10_share_185 at hw
  obtain ⟨v1, ev1⟩ : ∃ z : Int32, z = l7 + (1 : Int32) := ⟨_, rfl⟩
  have hw := wp_bd hw v1 ev1
  refine G_iinc (v := v1) (lv' := [some (.ref l0), none, none, some (.int l3), some (.int l4), some (.int l5), some (.int l6), some (.int v1), none, none]) dX10_share_185 rfl (by rw [ev1]; rfl) (Nat.le_of_ble_eq_true rfl) rfl ?_
  refine G_goto (tgt := 98) dX10_share_188 rfl ?_
  refine G.less [some (.ref l0), none, none, some (.int l3), some (.int l4), some (.int l5), some (.int l6), some (.int v1), none, none] ⟨rfl, ⟨rfl, ⟨rfl, ⟨rfl, ⟨rfl, ⟨rfl, trivial⟩⟩⟩⟩⟩⟩ ?_
  exact hK_98 _ _ _ _ _ _ h Q hw
set_option maxHeartbeats 4000000 in
set_option maxRecDepth 100000 in
theorem f_X10_share_98_bok {Γ : GX} (hs : SF Γ) {N : Nat} {K_98 : Nat → Int32 → Int32 → Int32 → Int32 → Int32 → PH → Option (Int32 × PH)} (hK_98 : ∀ (l0 : Nat) (l3 : Int32) (l4 : Int32) (l5 : Int32) (l6 : Int32) (l7 : Int32) (h : PH) (Q : Int32 → PH → Prop), wp (K_98 l0 l3 l4 l5 l6 l7 h) Q → G Γ yX10_share cX10_share 10 (some .int) (6, 0, 0) 98 [some (.ref l0), none, none, some (.int l3), some (.int l4), some (.int l5), some (.int l6), some (.int l7), none, none] [] h (0, 0) (q_i Q)) (l0 : Nat) (l3 : Int32) (l4 : Int32) (l5 : Int32) (l6 : Int32) (l7 : Int32) (h : PH) (Q : Int32 → PH → Prop) (hw : wp (f_X10_share_98_b N K_98 l0 l3 l4 l5 l6 l7 h) Q) : G Γ yX10_share cX10_share 10 (some .int) (6, 0, 0) 98 [some (.ref l0), none, none, some (.int l3), some (.int l4), some (.int l5), some (.int l6), some (.int l7), none, none] [] h (0, 0) (q_i Q) := by
  unfold f_X10_share_98_b at hw
  refine G_iload dX10_share_98 rfl ?_
  refine G_iload dX10_share_100 rfl ?_
  have hw := wp_if hw
  refine G_icmp_gt (tgt := 191) dX10_share_102 rfl (fun c1 => ?_) (fun c1 => ?_)
  · have hw := hw.1 c1
    refine G_iload dX10_share_191 rfl ?_
    refine G_sipush (v := (1000 : Int32)) dX10_share_193 (by decide) ?_
    refine G_imul dX10_share_196 ?_
    refine G_getsR (k := 28) hs.2.2.2.2.2.1 w_1252 dX10_share_197 ?_
    refine G_iload dX10_share_200 rfl ?_
    obtain ⟨c2, hw⟩ := wp_ck hw
    refine G_oload hs dX10_share_202 c2 ?_
    obtain ⟨c3, hw⟩ := wp_ck hw
    refine G_idiv dX10_share_203 c3 ?_
    exact G_ireturn rfl dX10_share_204 ⟨_, rfl, wp_ret hw⟩
  · have hw := hw.2 c1
    refine G_iload dX10_share_105 rfl ?_
    refine G_iload dX10_share_107 rfl ?_
    refine G_iconst (v := (-1 : Int32)) dX10_share_109 (by decide) ?_
    refine G_ixor dX10_share_110 ?_
    refine G_iand dX10_share_111 ?_
    have hw := wp_if hw
    refine G_if_ne (tgt := 185) dX10_share_112 rfl (fun c4 => ?_) (fun c4 => ?_)
    · have hw := hw.2 c4
      refine G.less [some (.ref l0), none, none, some (.int l3), some (.int l4), some (.int l5), some (.int l6), some (.int l7), none, none] ⟨rfl, ⟨rfl, ⟨rfl, ⟨rfl, ⟨rfl, ⟨rfl, trivial⟩⟩⟩⟩⟩⟩ ?_
      exact f_X10_share_185_ok hs hK_98 _ _ _ _ _ _ h Q hw
    · have hw := hw.1 c4
      refine G_iload dX10_share_115 rfl ?_
      refine G_callS (As := [.int l7]) (s_J6_bitCount_0f7a4 hs l7 h _ (wp_cl hw)) ca_J6_bitCount_0f7a4 w_1247 w_1246 (Nat.le_of_ble_eq_true rfl) (Nat.le_of_ble_eq_true rfl) rfl (Nat.le_of_ble_eq_true rfl) (Nat.le_of_ble_eq_true rfl) (Nat.le_of_ble_eq_true rfl) dX10_share_117 rfl (fun v h6 hq => ?_)
      obtain ⟨r5, rfl, hw⟩ := hq
      refine G.cse (cs' := (0, 0)) rfl ?_
      show GZ _ _ _ _ _ _ _ 120 _ (.int r5 :: []) _ _
      refine G_istore (lv' := [some (.ref l0), none, none, some (.int l3), some (.int l4), some (.int l5), some (.int l6), some (.int l7), some (.int r5), none]) dX10_share_120 (Nat.le_of_ble_eq_true rfl) rfl ?_
      refine G_aload_n dX10_share_122 rfl ?_
      obtain ⟨c7, hw⟩ := wp_ck hw
      refine G_getR fl_X10_now w_498 dX10_share_123 c7 ?_
      obtain ⟨a8, ea8, hw⟩ := wp_rq hw
      refine G.sure ea8 ?_
      obtain ⟨c9, hw⟩ := wp_ck hw
      refine G_getNR fl_X2_state w_257 dX10_share_126 c9 ?_
      obtain ⟨a10, ea10, hw⟩ := wp_rq hw
      refine G.sure ea10 ?_
      refine G_aload_n dX10_share_129 rfl ?_
      refine G_getR fl_X10_valley w_507 dX10_share_130 c7 ?_
      obtain ⟨a11, ea11, hw⟩ := wp_rq hw
      refine G.sure ea11 ?_
      refine G_iload dX10_share_133 rfl ?_
      refine G_iload_n dX10_share_135 rfl ?_
      refine G_ior dX10_share_136 ?_
      obtain ⟨c14, hw⟩ := wp_ck hw
      refine G_callV (As := [.ref a11, .int (l7 ||| l3)]) (s_X4_sootBy hs a10 a11 (l7 ||| l3) h6 _ (wp_cl hw)) ca_X4_sootBy w_1063 w_1064 (ci := 4) rfl (by decide) w_1254 c14 (Nat.le_of_ble_eq_true rfl) (Nat.le_of_ble_eq_true rfl) rfl (Nat.le_of_ble_eq_true rfl) (Nat.le_of_ble_eq_true rfl) (Nat.le_of_ble_eq_true rfl) dX10_share_137 rfl (fun v h13 hq => ?_)
      obtain ⟨r12, rfl, hw⟩ := hq
      refine G.cse (cs' := (0, 0)) rfl ?_
      show GZ _ _ _ _ _ _ _ 140 _ (.int r12 :: []) _ _
      refine G_aload_n dX10_share_140 rfl ?_
      obtain ⟨c15, hw⟩ := wp_ck hw
      refine G_getR fl_X10_now w_498 dX10_share_141 c15 ?_
      obtain ⟨a16, ea16, hw⟩ := wp_rq hw
      refine G.sure ea16 ?_
      obtain ⟨c17, hw⟩ := wp_ck hw
      refine G_getNR fl_X2_state w_257 dX10_share_144 c17 ?_
      obtain ⟨a18, ea18, hw⟩ := wp_rq hw
      refine G.sure ea18 ?_
      refine G_aload_n dX10_share_147 rfl ?_
      refine G_getR fl_X10_valley w_507 dX10_share_148 c15 ?_
      obtain ⟨a19, ea19, hw⟩ := wp_rq hw
      refine G.sure ea19 ?_
      refine G_iload dX10_share_151 rfl ?_
      obtain ⟨c22, hw⟩ := wp_ck hw
      refine G_callV (As := [.ref a19, .int l7]) (s_X4_sootBy hs a18 a19 l7 h13 _ (wp_cl hw)) ca_X4_sootBy w_1063 w_1064 (ci := 4) rfl (by decide) w_1254 c22 (Nat.le_of_ble_eq_true rfl) (Nat.le_of_ble_eq_true rfl) rfl (Nat.le_of_ble_eq_true rfl) (Nat.le_of_ble_eq_true rfl) (Nat.le_of_ble_eq_true rfl) dX10_share_153 rfl (fun v h21 hq => ?_)
      obtain ⟨r20, rfl, hw⟩ := hq
      refine G.cse (cs' := (0, 0)) rfl ?_
      show GZ _ _ _ _ _ _ _ 156 _ (.int r20 :: [.int r12]) _ _
      refine G_isub dX10_share_156 ?_
      refine G.topi fun v23 ev23 => ?_
      have hw := wp_bd hw v23 ev23
      refine G_istore (lv' := [some (.ref l0), none, none, some (.int l3), some (.int l4), some (.int l5), some (.int l6), some (.int l7), some (.int r5), some (.int v23)]) dX10_share_157 (Nat.le_of_ble_eq_true rfl) rfl ?_
      refine G_iload dX10_share_159 rfl ?_
      refine G_iload dX10_share_161 rfl ?_
      refine G_getsR (k := 28) hs.2.2.2.2.2.1 w_1252 dX10_share_163 ?_
      refine G_iload dX10_share_166 rfl ?_
      obtain ⟨c24, hw⟩ := wp_ck hw
      refine G_oload hs dX10_share_168 c24 ?_
      refine G_imul dX10_share_169 ?_
      refine G_getsR (k := 28) hs.2.2.2.2.2.1 w_1252 dX10_share_170 ?_
      refine G_iload dX10_share_173 rfl ?_
      refine G_iconst (v := (1 : Int32)) dX10_share_175 (by decide) ?_
      refine G_isub dX10_share_176 ?_
      refine G_iload dX10_share_177 rfl ?_
      refine G_isub dX10_share_179 ?_
      obtain ⟨c25, hw⟩ := wp_ck hw
      refine G_oload hs dX10_share_180 c25 ?_
      refine G_imul dX10_share_181 ?_
      refine G_iadd dX10_share_182 ?_
      refine G.topi fun v26 ev26 => ?_
      have hw := wp_bd hw v26 ev26
      refine G_istore (lv' := [some (.ref l0), none, none, some (.int l3), some (.int l4), some (.int l5), some (.int v26), some (.int l7), some (.int r5), some (.int v23)]) dX10_share_183 (Nat.le_of_ble_eq_true rfl) rfl ?_
      refine G.less [some (.ref l0), none, none, some (.int l3), some (.int l4), some (.int l5), some (.int v26), some (.int l7), none, none] ⟨rfl, ⟨rfl, ⟨rfl, ⟨rfl, ⟨rfl, ⟨rfl, trivial⟩⟩⟩⟩⟩⟩ ?_
      exact f_X10_share_185_ok hs hK_98 _ _ _ _ _ _ h21 Q hw
theorem f_X10_share_98_ok {Γ : GX} (hs : SF Γ) {N : Nat} : ∀ (n : Nat) (l0 : Nat) (l3 : Int32) (l4 : Int32) (l5 : Int32) (l6 : Int32) (l7 : Int32) (h : PH) (Q : Int32 → PH → Prop), wp (f_X10_share_98 N n l0 l3 l4 l5 l6 l7 h) Q → G Γ yX10_share cX10_share 10 (some .int) (6, 0, 0) 98 [some (.ref l0), none, none, some (.int l3), some (.int l4), some (.int l5), some (.int l6), some (.int l7), none, none] [] h (0, 0) (q_i Q)
  | 0, _, _, _, _, _, _, _, Q, hw => (wp_no hw).elim
  | n + 1, l0, l3, l4, l5, l6, l7, h, Q, hw => f_X10_share_98_bok (N := N) hs (f_X10_share_98_ok (N := N) hs n) l0 l3 l4 l5 l6 l7 h Q hw
set_option maxHeartbeats 4000000 in
set_option maxRecDepth 100000 in
theorem s_X10_share {Γ : GX} (hs : SF Γ) {N : Nat} (l0 : Nat) (l1 : Int32) (h : PH) (Q : Int32 → PH → Prop) (hw : wp (f_X10_share N l0 l1 h) Q) : Spec Γ yX10_share cX10_share 10 (some .int) (6, 0, 0) [.ref l0, .int l1] h (q_i Q) := by
  refine Spec.of (by decide) (Nat.le_of_ble_eq_true rfl) [some (.ref l0), some (.int l1), none, none, none, none, none, none, none, none] rfl ?_
  unfold f_X10_share at hw
  refine G_aload_n dX10_share_0 rfl ?_
  obtain ⟨c1, hw⟩ := wp_ck hw
  refine G_getR fl_X10_valley w_507 dX10_share_1 c1 ?_
  obtain ⟨a2, ea2, hw⟩ := wp_rq hw
  refine G.sure ea2 ?_
  refine G_iconst (v := (2 : Int32)) dX10_share_4 (by decide) ?_
  refine G_iload_n dX10_share_5 rfl ?_
  obtain ⟨c5, hw⟩ := wp_ck hw
  refine G_callV (As := [.int (2 : Int32), .int l1]) (s_X6_has hs a2 (2 : Int32) l1 h _ (wp_cl hw)) ca_X6_has w_955 w_956 (ci := 6) rfl (by decide) w_954 c5 (Nat.le_of_ble_eq_true rfl) (Nat.le_of_ble_eq_true rfl) rfl (Nat.le_of_ble_eq_true rfl) (Nat.le_of_ble_eq_true rfl) (Nat.le_of_ble_eq_true rfl) dX10_share_6 rfl (fun v h4 hq => ?_)
  obtain ⟨r3, rfl, hw⟩ := hq
  refine G.cse (cs' := (0, 0)) rfl ?_
  show GZ _ _ _ _ _ _ _ 9 _ (.int r3 :: []) _ _
  have hw := wp_if hw
  refine G_if_ne (tgt := 14) dX10_share_9 rfl (fun c6 => ?_) (fun c6 => ?_)
  · have hw := hw.2 c6
    refine G_aload_n dX10_share_14 rfl ?_
    obtain ⟨c7, hw⟩ := wp_ck hw
    refine G_getR fl_X10_now w_498 dX10_share_15 c7 ?_
    obtain ⟨a8, ea8, hw⟩ := wp_rq hw
    refine G.sure ea8 ?_
    obtain ⟨c9, hw⟩ := wp_ck hw
    refine G_getNR fl_X2_state w_257 dX10_share_18 c9 ?_
    obtain ⟨a10, ea10, hw⟩ := wp_rq hw
    refine G.sure ea10 ?_
    refine G_iload_n dX10_share_21 rfl ?_
    obtain ⟨c13, hw⟩ := wp_ck hw
    refine G_callV (As := [.int l1]) (s_X4_burns hs a10 l1 h4 _ (wp_cl hw)) ca_X4_burns w_1024 w_1025 (ci := 4) rfl (by decide) w_1217 c13 (Nat.le_of_ble_eq_true rfl) (Nat.le_of_ble_eq_true rfl) rfl (Nat.le_of_ble_eq_true rfl) (Nat.le_of_ble_eq_true rfl) (Nat.le_of_ble_eq_true rfl) dX10_share_22 rfl (fun v h12 hq => ?_)
    obtain ⟨r11, rfl, hw⟩ := hq
    refine G.cse (cs' := (0, 0)) rfl ?_
    show GZ _ _ _ _ _ _ _ 25 _ (.int r11 :: []) _ _
    have hw := wp_if hw
    refine G_if_ne (tgt := 30) dX10_share_25 rfl (fun c14 => ?_) (fun c14 => ?_)
    · have hw := hw.2 c14
      refine G_aload_n dX10_share_30 rfl ?_
      obtain ⟨c15, hw⟩ := wp_ck hw
      refine G_getR fl_X10_now w_498 dX10_share_31 c15 ?_
      obtain ⟨a16, ea16, hw⟩ := wp_rq hw
      refine G.sure ea16 ?_
      obtain ⟨c17, hw⟩ := wp_ck hw
      refine G_getNR fl_X2_state w_257 dX10_share_34 c17 ?_
      obtain ⟨a18, ea18, hw⟩ := wp_rq hw
      refine G.sure ea18 ?_
      obtain ⟨c21, hw⟩ := wp_ck hw
      refine G_callV (As := []) (s_X4_fires hs a18 h12 _ (wp_cl hw)) ca_X4_fires w_1243 w_1244 (ci := 4) rfl (by decide) w_1242 c21 (Nat.le_of_ble_eq_true rfl) (Nat.le_of_ble_eq_true rfl) rfl (Nat.le_of_ble_eq_true rfl) (Nat.le_of_ble_eq_true rfl) (Nat.le_of_ble_eq_true rfl) dX10_share_37 rfl (fun v h20 hq => ?_)
      obtain ⟨r19, rfl, hw⟩ := hq
      refine G.cse (cs' := (0, 0)) rfl ?_
      show GZ _ _ _ _ _ _ _ 40 _ (.int r19 :: []) _ _
      refine G_aload_n dX10_share_40 rfl ?_
      obtain ⟨c22, hw⟩ := wp_ck hw
      refine G_getR fl_X10_valley w_507 dX10_share_41 c22 ?_
      obtain ⟨a23, ea23, hw⟩ := wp_rq hw
      refine G.sure ea23 ?_
      refine G_aload_n dX10_share_44 rfl ?_
      refine G_getR fl_X10_valley w_507 dX10_share_45 c22 ?_
      obtain ⟨a24, ea24, hw⟩ := wp_rq hw
      refine G.sure ea24 ?_
      obtain ⟨c25, hw⟩ := wp_ck hw
      refine G_getNR fl_X6_houseFlue w_444 dX10_share_48 c25 ?_
      obtain ⟨a26, ea26, hw⟩ := wp_rq hw
      refine G.sure ea26 ?_
      refine G_iload_n dX10_share_51 rfl ?_
      obtain ⟨c27, hw⟩ := wp_ck hw
      obtain ⟨c28, hw⟩ := wp_ck hw
      refine G_iaload dX10_share_52 c27 c28 ?_
      obtain ⟨c31, hw⟩ := wp_ck hw
      refine G_callV (As := [.int (hI h20 a26 (ix l1))]) (s_X6_housesAt hs a23 (hI h20 a26 (ix l1)) h20 _ (wp_cl hw)) ca_X6_housesAt w_967 w_968 (ci := 6) rfl (by decide) w_966 c31 (Nat.le_of_ble_eq_true rfl) (Nat.le_of_ble_eq_true rfl) rfl (Nat.le_of_ble_eq_true rfl) (Nat.le_of_ble_eq_true rfl) (Nat.le_of_ble_eq_true rfl) dX10_share_53 rfl (fun v h30 hq => ?_)
      obtain ⟨r29, rfl, hw⟩ := hq
      refine G.cse (cs' := (0, 0)) rfl ?_
      show GZ _ _ _ _ _ _ _ 56 _ (.int r29 :: [.int r19]) _ _
      refine G_iand dX10_share_56 ?_
      refine G.topi fun v32 ev32 => ?_
      have hw := wp_bd hw v32 ev32
      refine G_istore_n (lv' := [some (.ref l0), some (.int l1), some (.int v32), none, none, none, none, none, none, none]) dX10_share_57 (Nat.le_of_ble_eq_true rfl) rfl ?_
      refine G_iconst (v := (1 : Int32)) dX10_share_58 (by decide) ?_
      refine G_iload_n dX10_share_59 rfl ?_
      refine G_ishl dX10_share_60 ?_
      refine G.topi fun v33 ev33 => ?_
      have hw := wp_bd hw v33 ev33
      refine G_istore_n (lv' := [some (.ref l0), some (.int l1), some (.int v32), some (.int v33), none, none, none, none, none, none]) dX10_share_61 (Nat.le_of_ble_eq_true rfl) rfl ?_
      refine G_iload_n dX10_share_62 rfl ?_
      refine G_iload_n dX10_share_63 rfl ?_
      refine G_iconst (v := (-1 : Int32)) dX10_share_64 (by decide) ?_
      refine G_ixor dX10_share_65 ?_
      refine G_iand dX10_share_66 ?_
      refine G.topi fun v34 ev34 => ?_
      have hw := wp_bd hw v34 ev34
      refine G_istore (lv' := [some (.ref l0), some (.int l1), some (.int v32), some (.int v33), some (.int v34), none, none, none, none, none]) dX10_share_67 (Nat.le_of_ble_eq_true rfl) rfl ?_
      refine G_iload_n dX10_share_69 rfl ?_
      refine G_callS (As := [.int v32]) (s_J6_bitCount_0f7a4 hs v32 h30 _ (wp_cl hw)) ca_J6_bitCount_0f7a4 w_1247 w_1246 (Nat.le_of_ble_eq_true rfl) (Nat.le_of_ble_eq_true rfl) rfl (Nat.le_of_ble_eq_true rfl) (Nat.le_of_ble_eq_true rfl) (Nat.le_of_ble_eq_true rfl) dX10_share_70 rfl (fun v h36 hq => ?_)
      obtain ⟨r35, rfl, hw⟩ := hq
      refine G.cse (cs' := (0, 0)) rfl ?_
      show GZ _ _ _ _ _ _ _ 73 _ (.int r35 :: []) _ _
      refine G_istore (lv' := [some (.ref l0), some (.int l1), some (.int v32), some (.int v33), some (.int v34), some (.int r35), none, none, none, none]) dX10_share_73 (Nat.le_of_ble_eq_true rfl) rfl ?_
      refine G_iload dX10_share_75 rfl ?_
      refine G_iconst (v := (1 : Int32)) dX10_share_77 (by decide) ?_
      have hw := wp_if hw
      refine G_icmp_lt (tgt := 90) dX10_share_78 rfl (fun c37 => ?_) (fun c37 => ?_)
      · have hw := hw.1 c37
        refine G_iconst (v := (0 : Int32)) dX10_share_90 (by decide) ?_
        exact G_ireturn rfl dX10_share_91 ⟨_, rfl, wp_ret hw⟩
      · have hw := hw.2 c37
        refine G_iload dX10_share_81 rfl ?_
        refine G_getsR (k := 28) hs.2.2.2.2.2.1 w_1252 dX10_share_83 ?_
        refine G_olen hs dX10_share_86 ?_
        have hw := wp_if hw
        refine G_icmp_lt (tgt := 92) dX10_share_87 rfl (fun c38 => ?_) (fun c38 => ?_)
        · have hw := hw.1 c38
          refine G_iconst (v := (0 : Int32)) dX10_share_92 (by decide) ?_
          refine G_istore (lv' := [some (.ref l0), some (.int l1), some (.int v32), some (.int v33), some (.int v34), some (.int r35), some (.int (0 : Int32)), none, none, none]) dX10_share_93 (Nat.le_of_ble_eq_true rfl) rfl ?_
          refine G_iconst (v := (0 : Int32)) dX10_share_95 (by decide) ?_
          refine G_istore (lv' := [some (.ref l0), some (.int l1), some (.int v32), some (.int v33), some (.int v34), some (.int r35), some (.int (0 : Int32)), some (.int (0 : Int32)), none, none]) dX10_share_96 (Nat.le_of_ble_eq_true rfl) rfl ?_
          refine G.less [some (.ref l0), none, none, some (.int v33), some (.int v34), some (.int r35), some (.int (0 : Int32)), some (.int (0 : Int32)), none, none] ⟨rfl, ⟨rfl, ⟨rfl, ⟨rfl, ⟨rfl, ⟨rfl, trivial⟩⟩⟩⟩⟩⟩ ?_
          exact f_X10_share_98_ok hs N _ _ _ _ _ _ h36 Q hw
        · have hw := hw.2 c38
          refine G_iconst (v := (0 : Int32)) dX10_share_90 (by decide) ?_
          exact G_ireturn rfl dX10_share_91 ⟨_, rfl, wp_ret hw⟩
    · have hw := hw.1 c14
      refine G_iconst (v := (0 : Int32)) dX10_share_28 (by decide) ?_
      exact G_ireturn rfl dX10_share_29 ⟨_, rfl, wp_ret hw⟩
  · have hw := hw.1 c6
    refine G_iconst (v := (-1 : Int32)) dX10_share_12 (by decide) ?_
    exact G_ireturn rfl dX10_share_13 ⟨_, rfl, wp_ret hw⟩
set_option maxHeartbeats 4000000 in
set_option maxRecDepth 100000 in
theorem f_X10_given_109_ok {Γ : GX} (hs : SF Γ) {N : Nat} {K_52 : Nat → Int32 → Int32 → Int32 → Int32 → Int32 → Int32 → PH → Option (Int32 × PH)} (hK_52 : ∀ (l0 : Nat) (l1 : Int32) (l2 : Int32) (l3 : Int32) (l4 : Int32) (l5 : Int32) (l6 : Int32) (h : PH) (Q : Int32 → PH → Prop), wp (K_52 l0 l1 l2 l3 l4 l5 l6 h) Q → G Γ yX10_given cX10_given 7 (some .int) (2, 0, 0) 52 [some (.ref l0), some (.int l1), some (.int l2), some (.int l3), some (.int l4), some (.int l5), some (.int l6)] [] h (0, 0) (q_i Q)) (l0 : Nat) (l1 : Int32) (l2 : Int32) (l3 : Int32) (l4 : Int32) (l5 : Int32) (l6 : Int32) (h : PH) (Q : Int32 → PH → Prop) (hw : wp (f_X10_given_109 N K_52 l0 l1 l2 l3 l4 l5 l6 h) Q) : G Γ yX10_given cX10_given 7 (some .int) (2, 0, 0) 109 [some (.ref l0), some (.int l1), some (.int l2), some (.int l3), some (.int l4), some (.int l5), some (.int l6)] [] h (0, 0) (q_i Q) := by
  unfold f_X10_given_109 at hw
  obtain ⟨v1, ev1⟩ : ∃ z : Int32, z = l6 + (1 : Int32) := ⟨_, rfl⟩
  have hw := wp_bd hw v1 ev1
  refine G_iinc (v := v1) (lv' := [some (.ref l0), some (.int l1), some (.int l2), some (.int l3), some (.int l4), some (.int l5), some (.int v1)]) dX10_given_109 rfl (by rw [ev1]; rfl) (Nat.le_of_ble_eq_true rfl) rfl ?_
  refine G_goto (tgt := 52) dX10_given_112 rfl ?_
  refine G.less [some (.ref l0), some (.int l1), some (.int l2), some (.int l3), some (.int l4), some (.int l5), some (.int v1)] ⟨rfl, ⟨rfl, ⟨rfl, ⟨rfl, ⟨rfl, ⟨rfl, ⟨rfl, trivial⟩⟩⟩⟩⟩⟩⟩ ?_
  exact hK_52 _ _ _ _ _ _ _ h Q hw
set_option maxHeartbeats 4000000 in
set_option maxRecDepth 100000 in
theorem f_X10_given_106_ok {Γ : GX} (hs : SF Γ) {N : Nat} {K_52 : Nat → Int32 → Int32 → Int32 → Int32 → Int32 → Int32 → PH → Option (Int32 × PH)} (hK_52 : ∀ (l0 : Nat) (l1 : Int32) (l2 : Int32) (l3 : Int32) (l4 : Int32) (l5 : Int32) (l6 : Int32) (h : PH) (Q : Int32 → PH → Prop), wp (K_52 l0 l1 l2 l3 l4 l5 l6 h) Q → G Γ yX10_given cX10_given 7 (some .int) (2, 0, 0) 52 [some (.ref l0), some (.int l1), some (.int l2), some (.int l3), some (.int l4), some (.int l5), some (.int l6)] [] h (0, 0) (q_i Q)) (s0 : Int32) (s1 : Int32) (l0 : Nat) (l1 : Int32) (l2 : Int32) (l3 : Int32) (l4 : Int32) (l6 : Int32) (h : PH) (Q : Int32 → PH → Prop) (hw : wp (f_X10_given_106 N K_52 s0 s1 l0 l1 l2 l3 l4 l6 h) Q) : G Γ yX10_given cX10_given 7 (some .int) (2, 0, 0) 106 [some (.ref l0), some (.int l1), some (.int l2), some (.int l3), some (.int l4), none, some (.int l6)] [.int s0, .int s1] h (0, 0) (q_i Q) := by
  unfold f_X10_given_106 at hw
  refine G_iadd dX10_given_106 ?_
  refine G.topi fun v1 ev1 => ?_
  have hw := wp_bd hw v1 ev1
  refine G_istore (lv' := [some (.ref l0), some (.int l1), some (.int l2), some (.int l3), some (.int l4), some (.int v1), some (.int l6)]) dX10_given_107 (Nat.le_of_ble_eq_true rfl) rfl ?_
  refine G.less [some (.ref l0), some (.int l1), some (.int l2), some (.int l3), some (.int l4), some (.int v1), some (.int l6)] ⟨rfl, ⟨rfl, ⟨rfl, ⟨rfl, ⟨rfl, ⟨rfl, ⟨rfl, trivial⟩⟩⟩⟩⟩⟩⟩ ?_
  exact f_X10_given_109_ok hs hK_52 _ _ _ _ _ _ _ h Q hw
set_option maxHeartbeats 4000000 in
set_option maxRecDepth 100000 in
theorem f_X10_given_149_ok {Γ : GX} (hs : SF Γ) {N : Nat} (s0 : Int32) (s1 : Int32) (h : PH) (Q : Int32 → PH → Prop) (hw : wp (f_X10_given_149 N s0 s1 h) Q) : G Γ yX10_given cX10_given 7 (some .int) (2, 0, 0) 149 [none, none, none, none, none, none, none] [.int s0, .int s1] h (0, 0) (q_i Q) := by
  unfold f_X10_given_149 at hw
  refine G_iadd dX10_given_149 ?_
  exact G_ireturn rfl dX10_given_150 ⟨_, rfl, wp_ret hw⟩
set_option maxHeartbeats 4000000 in
set_option maxRecDepth 100000 in
theorem f_X10_given_52_bok {Γ : GX} (hs : SF Γ) {N : Nat} {K_52 : Nat → Int32 → Int32 → Int32 → Int32 → Int32 → Int32 → PH → Option (Int32 × PH)} (hK_52 : ∀ (l0 : Nat) (l1 : Int32) (l2 : Int32) (l3 : Int32) (l4 : Int32) (l5 : Int32) (l6 : Int32) (h : PH) (Q : Int32 → PH → Prop), wp (K_52 l0 l1 l2 l3 l4 l5 l6 h) Q → G Γ yX10_given cX10_given 7 (some .int) (2, 0, 0) 52 [some (.ref l0), some (.int l1), some (.int l2), some (.int l3), some (.int l4), some (.int l5), some (.int l6)] [] h (0, 0) (q_i Q)) (l0 : Nat) (l1 : Int32) (l2 : Int32) (l3 : Int32) (l4 : Int32) (l5 : Int32) (l6 : Int32) (h : PH) (Q : Int32 → PH → Prop) (hw : wp (f_X10_given_52_b N K_52 l0 l1 l2 l3 l4 l5 l6 h) Q) : G Γ yX10_given cX10_given 7 (some .int) (2, 0, 0) 52 [some (.ref l0), some (.int l1), some (.int l2), some (.int l3), some (.int l4), some (.int l5), some (.int l6)] [] h (0, 0) (q_i Q) := by
  unfold f_X10_given_52_b at hw
  refine G_iload dX10_given_52 rfl ?_
  refine G_aload_n dX10_given_54 rfl ?_
  obtain ⟨c1, hw⟩ := wp_ck hw
  refine G_getR fl_X10_valley w_507 dX10_given_55 c1 ?_
  obtain ⟨a2, ea2, hw⟩ := wp_rq hw
  refine G.sure ea2 ?_
  obtain ⟨c3, hw⟩ := wp_ck hw
  refine G_getNR fl_X6_many w_431 dX10_given_58 c3 ?_
  obtain ⟨a4, ea4, hw⟩ := wp_rq hw
  refine G.sure ea4 ?_
  refine G_iconst (v := (2 : Int32)) dX10_given_61 (by decide) ?_
  obtain ⟨c5, hw⟩ := wp_ck hw
  obtain ⟨c6, hw⟩ := wp_ck hw
  refine G_ialoadK (k := 2) dX10_given_62 c5 (by decide) rfl c6 ?_
  have hw := wp_if hw
  refine G_icmp_ge (tgt := 115) dX10_given_63 rfl (fun c7 => ?_) (fun c7 => ?_)
  · have hw := hw.1 c7
    refine G_iload_n dX10_given_115 rfl ?_
    refine G_callS (As := [.int l3]) (s_J6_bitCount_0f7a4 hs l3 h _ (wp_cl hw)) ca_J6_bitCount_0f7a4 w_1247 w_1246 (Nat.le_of_ble_eq_true rfl) (Nat.le_of_ble_eq_true rfl) rfl (Nat.le_of_ble_eq_true rfl) (Nat.le_of_ble_eq_true rfl) (Nat.le_of_ble_eq_true rfl) dX10_given_116 rfl (fun v h9 hq => ?_)
    obtain ⟨r8, rfl, hw⟩ := hq
    refine G.cse (cs' := (0, 0)) rfl ?_
    show GZ _ _ _ _ _ _ _ 119 _ (.int r8 :: []) _ _
    refine G_istore (lv' := [some (.ref l0), some (.int l1), some (.int l2), some (.int l3), some (.int l4), some (.int l5), some (.int r8)]) dX10_given_119 (Nat.le_of_ble_eq_true rfl) rfl ?_
    refine G_iload dX10_given_121 rfl ?_
    refine G_iconst (v := (1 : Int32)) dX10_given_123 (by decide) ?_
    have hw := wp_if hw
    refine G_icmp_ge (tgt := 129) dX10_given_124 rfl (fun c10 => ?_) (fun c10 => ?_)
    · have hw := hw.1 c10
      refine G_iload dX10_given_129 rfl ?_
      refine G_iload dX10_given_131 rfl ?_
      obtain ⟨c11, hw⟩ := wp_ck hw
      refine G_idiv dX10_given_133 c11 ?_
      refine G_iload dX10_given_134 rfl ?_
      refine G_iload dX10_given_136 rfl ?_
      refine G_iload dX10_given_138 rfl ?_
      refine G_irem dX10_given_140 c11 ?_
      have hw := wp_if hw
      refine G_icmp_ge (tgt := 148) dX10_given_141 rfl (fun c12 => ?_) (fun c12 => ?_)
      · have hw := hw.1 c12
        refine G_iconst (v := (0 : Int32)) dX10_given_148 (by decide) ?_
        refine G.less [none, none, none, none, none, none, none] trivial ?_
        exact f_X10_given_149_ok hs _ _ h9 Q hw
      · have hw := hw.2 c12
        refine G_iconst (v := (1 : Int32)) dX10_given_144 (by decide) ?_
        refine G_goto (tgt := 149) dX10_given_145 rfl ?_
        refine G.less [none, none, none, none, none, none, none] trivial ?_
        exact f_X10_given_149_ok hs _ _ h9 Q hw
    · have hw := hw.2 c10
      refine G_iconst (v := (-1 : Int32)) dX10_given_127 (by decide) ?_
      exact G_ireturn rfl dX10_given_128 ⟨_, rfl, wp_ret hw⟩
  · have hw := hw.2 c7
    refine G_iload_n dX10_given_66 rfl ?_
    refine G_iload dX10_given_67 rfl ?_
    refine G_ishr dX10_given_69 ?_
    refine G_iconst (v := (1 : Int32)) dX10_given_70 (by decide) ?_
    refine G_iand dX10_given_71 ?_
    have hw := wp_if hw
    refine G_if_eq (tgt := 109) dX10_given_72 rfl (fun c13 => ?_) (fun c13 => ?_)
    · have hw := hw.1 c13
      refine G.less [some (.ref l0), some (.int l1), some (.int l2), some (.int l3), some (.int l4), some (.int l5), some (.int l6)] ⟨rfl, ⟨rfl, ⟨rfl, ⟨rfl, ⟨rfl, ⟨rfl, ⟨rfl, trivial⟩⟩⟩⟩⟩⟩⟩ ?_
      exact f_X10_given_109_ok hs hK_52 _ _ _ _ _ _ _ h Q hw
    · have hw := hw.2 c13
      refine G_iload dX10_given_75 rfl ?_
      refine G_aload_n dX10_given_77 rfl ?_
      refine G_getR fl_X10_now w_498 dX10_given_78 c1 ?_
      obtain ⟨a14, ea14, hw⟩ := wp_rq hw
      refine G.sure ea14 ?_
      obtain ⟨c15, hw⟩ := wp_ck hw
      refine G_getNR fl_X2_state w_257 dX10_given_81 c15 ?_
      obtain ⟨a16, ea16, hw⟩ := wp_rq hw
      refine G.sure ea16 ?_
      refine G_iload dX10_given_84 rfl ?_
      refine G_iload_n dX10_given_86 rfl ?_
      obtain ⟨c19, hw⟩ := wp_ck hw
      refine G_callV (As := [.int l6, .int l2]) (s_X4_stockOf hs a16 l6 l2 h _ (wp_cl hw)) ca_X4_stockOf w_959 w_960 (ci := 4) rfl (by decide) w_958 c19 (Nat.le_of_ble_eq_true rfl) (Nat.le_of_ble_eq_true rfl) rfl (Nat.le_of_ble_eq_true rfl) (Nat.le_of_ble_eq_true rfl) (Nat.le_of_ble_eq_true rfl) dX10_given_87 rfl (fun v h18 hq => ?_)
      obtain ⟨r17, rfl, hw⟩ := hq
      refine G.cse (cs' := (0, 0)) rfl ?_
      show GZ _ _ _ _ _ _ _ 90 _ (.int r17 :: [.int l4]) _ _
      refine G_iadd dX10_given_90 ?_
      refine G.topi fun v20 ev20 => ?_
      have hw := wp_bd hw v20 ev20
      refine G_istore (lv' := [some (.ref l0), some (.int l1), some (.int l2), some (.int l3), some (.int v20), some (.int l5), some (.int l6)]) dX10_given_91 (Nat.le_of_ble_eq_true rfl) rfl ?_
      refine G_iload dX10_given_93 rfl ?_
      refine G_iload dX10_given_95 rfl ?_
      refine G_iload_n dX10_given_97 rfl ?_
      have hw := wp_if hw
      refine G_icmp_ge (tgt := 105) dX10_given_98 rfl (fun c21 => ?_) (fun c21 => ?_)
      · have hw := hw.1 c21
        refine G_iconst (v := (0 : Int32)) dX10_given_105 (by decide) ?_
        refine G.less [some (.ref l0), some (.int l1), some (.int l2), some (.int l3), some (.int v20), none, some (.int l6)] ⟨rfl, ⟨rfl, ⟨rfl, ⟨rfl, ⟨rfl, ⟨rfl, trivial⟩⟩⟩⟩⟩⟩ ?_
        exact f_X10_given_106_ok hs hK_52 _ _ _ _ _ _ _ _ h18 Q hw
      · have hw := hw.2 c21
        refine G_iconst (v := (1 : Int32)) dX10_given_101 (by decide) ?_
        refine G_goto (tgt := 106) dX10_given_102 rfl ?_
        refine G.less [some (.ref l0), some (.int l1), some (.int l2), some (.int l3), some (.int v20), none, some (.int l6)] ⟨rfl, ⟨rfl, ⟨rfl, ⟨rfl, ⟨rfl, ⟨rfl, trivial⟩⟩⟩⟩⟩⟩ ?_
        exact f_X10_given_106_ok hs hK_52 _ _ _ _ _ _ _ _ h18 Q hw
theorem f_X10_given_52_ok {Γ : GX} (hs : SF Γ) {N : Nat} : ∀ (n : Nat) (l0 : Nat) (l1 : Int32) (l2 : Int32) (l3 : Int32) (l4 : Int32) (l5 : Int32) (l6 : Int32) (h : PH) (Q : Int32 → PH → Prop), wp (f_X10_given_52 N n l0 l1 l2 l3 l4 l5 l6 h) Q → G Γ yX10_given cX10_given 7 (some .int) (2, 0, 0) 52 [some (.ref l0), some (.int l1), some (.int l2), some (.int l3), some (.int l4), some (.int l5), some (.int l6)] [] h (0, 0) (q_i Q)
  | 0, _, _, _, _, _, _, _, _, Q, hw => (wp_no hw).elim
  | n + 1, l0, l1, l2, l3, l4, l5, l6, h, Q, hw => f_X10_given_52_bok (N := N) hs (f_X10_given_52_ok (N := N) hs n) l0 l1 l2 l3 l4 l5 l6 h Q hw
set_option maxHeartbeats 4000000 in
set_option maxRecDepth 100000 in
theorem s_X10_given {Γ : GX} (hs : SF Γ) {N : Nat} (l0 : Nat) (l1 : Int32) (l2 : Int32) (h : PH) (Q : Int32 → PH → Prop) (hw : wp (f_X10_given N l0 l1 l2 h) Q) : Spec Γ yX10_given cX10_given 7 (some .int) (2, 0, 0) [.ref l0, .int l1, .int l2] h (q_i Q) := by
  refine Spec.of (by decide) (Nat.le_of_ble_eq_true rfl) [some (.ref l0), some (.int l1), some (.int l2), none, none, none, none] rfl ?_
  unfold f_X10_given at hw
  refine G_aload_n dX10_given_0 rfl ?_
  obtain ⟨c1, hw⟩ := wp_ck hw
  refine G_getR fl_X10_valley w_507 dX10_given_1 c1 ?_
  obtain ⟨a2, ea2, hw⟩ := wp_rq hw
  refine G.sure ea2 ?_
  refine G_iconst (v := (2 : Int32)) dX10_given_4 (by decide) ?_
  refine G_iload_n dX10_given_5 rfl ?_
  obtain ⟨c5, hw⟩ := wp_ck hw
  refine G_callV (As := [.int (2 : Int32), .int l1]) (s_X6_has hs a2 (2 : Int32) l1 h _ (wp_cl hw)) ca_X6_has w_955 w_956 (ci := 6) rfl (by decide) w_954 c5 (Nat.le_of_ble_eq_true rfl) (Nat.le_of_ble_eq_true rfl) rfl (Nat.le_of_ble_eq_true rfl) (Nat.le_of_ble_eq_true rfl) (Nat.le_of_ble_eq_true rfl) dX10_given_6 rfl (fun v h4 hq => ?_)
  obtain ⟨r3, rfl, hw⟩ := hq
  refine G.cse (cs' := (0, 0)) rfl ?_
  show GZ _ _ _ _ _ _ _ 9 _ (.int r3 :: []) _ _
  have hw := wp_if hw
  refine G_if_eq (tgt := 24) dX10_given_9 rfl (fun c6 => ?_) (fun c6 => ?_)
  · have hw := hw.1 c6
    refine G_iconst (v := (-1 : Int32)) dX10_given_24 (by decide) ?_
    exact G_ireturn rfl dX10_given_25 ⟨_, rfl, wp_ret hw⟩
  · have hw := hw.2 c6
    refine G_aload_n dX10_given_12 rfl ?_
    obtain ⟨c7, hw⟩ := wp_ck hw
    refine G_getR fl_X10_valley w_507 dX10_given_13 c7 ?_
    obtain ⟨a8, ea8, hw⟩ := wp_rq hw
    refine G.sure ea8 ?_
    refine G_iconst (v := (0 : Int32)) dX10_given_16 (by decide) ?_
    refine G_iload_n dX10_given_17 rfl ?_
    obtain ⟨c11, hw⟩ := wp_ck hw
    refine G_callV (As := [.int (0 : Int32), .int l2]) (s_X6_has hs a8 (0 : Int32) l2 h4 _ (wp_cl hw)) ca_X6_has w_955 w_956 (ci := 6) rfl (by decide) w_954 c11 (Nat.le_of_ble_eq_true rfl) (Nat.le_of_ble_eq_true rfl) rfl (Nat.le_of_ble_eq_true rfl) (Nat.le_of_ble_eq_true rfl) (Nat.le_of_ble_eq_true rfl) dX10_given_18 rfl (fun v h10 hq => ?_)
    obtain ⟨r9, rfl, hw⟩ := hq
    refine G.cse (cs' := (0, 0)) rfl ?_
    show GZ _ _ _ _ _ _ _ 21 _ (.int r9 :: []) _ _
    have hw := wp_if hw
    refine G_if_ne (tgt := 26) dX10_given_21 rfl (fun c12 => ?_) (fun c12 => ?_)
    · have hw := hw.2 c12
      refine G_aload_n dX10_given_26 rfl ?_
      obtain ⟨c13, hw⟩ := wp_ck hw
      refine G_getR fl_X10_valley w_507 dX10_given_27 c13 ?_
      obtain ⟨a14, ea14, hw⟩ := wp_rq hw
      refine G.sure ea14 ?_
      refine G_aload_n dX10_given_30 rfl ?_
      refine G_getR fl_X10_valley w_507 dX10_given_31 c13 ?_
      obtain ⟨a15, ea15, hw⟩ := wp_rq hw
      refine G.sure ea15 ?_
      obtain ⟨c16, hw⟩ := wp_ck hw
      refine G_getNR fl_X6_houseFlue w_444 dX10_given_34 c16 ?_
      obtain ⟨a17, ea17, hw⟩ := wp_rq hw
      refine G.sure ea17 ?_
      refine G_iload_n dX10_given_37 rfl ?_
      obtain ⟨c18, hw⟩ := wp_ck hw
      obtain ⟨c19, hw⟩ := wp_ck hw
      refine G_iaload dX10_given_38 c18 c19 ?_
      obtain ⟨c22, hw⟩ := wp_ck hw
      refine G_callV (As := [.int (hI h10 a17 (ix l1))]) (s_X6_housesAt hs a14 (hI h10 a17 (ix l1)) h10 _ (wp_cl hw)) ca_X6_housesAt w_967 w_968 (ci := 6) rfl (by decide) w_966 c22 (Nat.le_of_ble_eq_true rfl) (Nat.le_of_ble_eq_true rfl) rfl (Nat.le_of_ble_eq_true rfl) (Nat.le_of_ble_eq_true rfl) (Nat.le_of_ble_eq_true rfl) dX10_given_39 rfl (fun v h21 hq => ?_)
      obtain ⟨r20, rfl, hw⟩ := hq
      refine G.cse (cs' := (0, 0)) rfl ?_
      show GZ _ _ _ _ _ _ _ 42 _ (.int r20 :: []) _ _
      refine G_istore_n (lv' := [some (.ref l0), some (.int l1), some (.int l2), some (.int r20), none, none, none]) dX10_given_42 (Nat.le_of_ble_eq_true rfl) rfl ?_
      refine G_iconst (v := (0 : Int32)) dX10_given_43 (by decide) ?_
      refine G_istore (lv' := [some (.ref l0), some (.int l1), some (.int l2), some (.int r20), some (.int (0 : Int32)), none, none]) dX10_given_44 (Nat.le_of_ble_eq_true rfl) rfl ?_
      refine G_iconst (v := (0 : Int32)) dX10_given_46 (by decide) ?_
      refine G_istore (lv' := [some (.ref l0), some (.int l1), some (.int l2), some (.int r20), some (.int (0 : Int32)), some (.int (0 : Int32)), none]) dX10_given_47 (Nat.le_of_ble_eq_true rfl) rfl ?_
      refine G_iconst (v := (0 : Int32)) dX10_given_49 (by decide) ?_
      refine G_istore (lv' := [some (.ref l0), some (.int l1), some (.int l2), some (.int r20), some (.int (0 : Int32)), some (.int (0 : Int32)), some (.int (0 : Int32))]) dX10_given_50 (Nat.le_of_ble_eq_true rfl) rfl ?_
      refine G.less [some (.ref l0), some (.int l1), some (.int l2), some (.int r20), some (.int (0 : Int32)), some (.int (0 : Int32)), some (.int (0 : Int32))] ⟨rfl, ⟨rfl, ⟨rfl, ⟨rfl, ⟨rfl, ⟨rfl, ⟨rfl, trivial⟩⟩⟩⟩⟩⟩⟩ ?_
      exact f_X10_given_52_ok hs N _ _ _ _ _ _ _ h21 Q hw
    · have hw := hw.1 c12
      refine G_iconst (v := (-1 : Int32)) dX10_given_24 (by decide) ?_
      exact G_ireturn rfl dX10_given_25 ⟨_, rfl, wp_ret hw⟩
set_option maxHeartbeats 4000000 in
set_option maxRecDepth 100000 in
theorem s_X10_areNeighbours {Γ : GX} (hs : SF Γ) {N : Nat} (l0 : Nat) (l1 : Int32) (l2 : Int32) (h : PH) (Q : Int32 → PH → Prop) (hw : wp (f_X10_areNeighbours N l0 l1 l2 h) Q) : Spec Γ yX10_areNeighbours cX10_areNeighbours 3 (some .boolean) (2, 0, 0) [.ref l0, .int l1, .int l2] h (q_i Q) := by
  refine Spec.of (by decide) (Nat.le_of_ble_eq_true rfl) [some (.ref l0), some (.int l1), some (.int l2)] rfl ?_
  unfold f_X10_areNeighbours at hw
  refine G_aload_n dX10_areNeighbours_0 rfl ?_
  obtain ⟨c1, hw⟩ := wp_ck hw
  refine G_getR fl_X10_valley w_507 dX10_areNeighbours_1 c1 ?_
  obtain ⟨a2, ea2, hw⟩ := wp_rq hw
  refine G.sure ea2 ?_
  refine G_iconst (v := (2 : Int32)) dX10_areNeighbours_4 (by decide) ?_
  refine G_iload_n dX10_areNeighbours_5 rfl ?_
  obtain ⟨c5, hw⟩ := wp_ck hw
  refine G_callV (As := [.int (2 : Int32), .int l1]) (s_X6_has hs a2 (2 : Int32) l1 h _ (wp_cl hw)) ca_X6_has w_955 w_956 (ci := 6) rfl (by decide) w_954 c5 (Nat.le_of_ble_eq_true rfl) (Nat.le_of_ble_eq_true rfl) rfl (Nat.le_of_ble_eq_true rfl) (Nat.le_of_ble_eq_true rfl) (Nat.le_of_ble_eq_true rfl) dX10_areNeighbours_6 rfl (fun v h4 hq => ?_)
  obtain ⟨r3, rfl, hw⟩ := hq
  refine G.cse (cs' := (0, 0)) rfl ?_
  show GZ _ _ _ _ _ _ _ 9 _ (.int r3 :: []) _ _
  have hw := wp_if hw
  refine G_if_eq (tgt := 29) dX10_areNeighbours_9 rfl (fun c6 => ?_) (fun c6 => ?_)
  · have hw := hw.1 c6
    refine G_iconst (v := (0 : Int32)) dX10_areNeighbours_29 (by decide) ?_
    exact G_zreturn rfl dX10_areNeighbours_30 rfl ⟨_, rfl, wp_ret hw⟩
  · have hw := hw.2 c6
    refine G_aload_n dX10_areNeighbours_12 rfl ?_
    obtain ⟨c7, hw⟩ := wp_ck hw
    refine G_getR fl_X10_valley w_507 dX10_areNeighbours_13 c7 ?_
    obtain ⟨a8, ea8, hw⟩ := wp_rq hw
    refine G.sure ea8 ?_
    refine G_iconst (v := (2 : Int32)) dX10_areNeighbours_16 (by decide) ?_
    refine G_iload_n dX10_areNeighbours_17 rfl ?_
    obtain ⟨c11, hw⟩ := wp_ck hw
    refine G_callV (As := [.int (2 : Int32), .int l2]) (s_X6_has hs a8 (2 : Int32) l2 h4 _ (wp_cl hw)) ca_X6_has w_955 w_956 (ci := 6) rfl (by decide) w_954 c11 (Nat.le_of_ble_eq_true rfl) (Nat.le_of_ble_eq_true rfl) rfl (Nat.le_of_ble_eq_true rfl) (Nat.le_of_ble_eq_true rfl) (Nat.le_of_ble_eq_true rfl) dX10_areNeighbours_18 rfl (fun v h10 hq => ?_)
    obtain ⟨r9, rfl, hw⟩ := hq
    refine G.cse (cs' := (0, 0)) rfl ?_
    show GZ _ _ _ _ _ _ _ 21 _ (.int r9 :: []) _ _
    have hw := wp_if hw
    refine G_if_eq (tgt := 29) dX10_areNeighbours_21 rfl (fun c12 => ?_) (fun c12 => ?_)
    · have hw := hw.1 c12
      refine G_iconst (v := (0 : Int32)) dX10_areNeighbours_29 (by decide) ?_
      exact G_zreturn rfl dX10_areNeighbours_30 rfl ⟨_, rfl, wp_ret hw⟩
    · have hw := hw.2 c12
      refine G_iload_n dX10_areNeighbours_24 rfl ?_
      refine G_iload_n dX10_areNeighbours_25 rfl ?_
      have hw := wp_if hw
      refine G_icmp_ne (tgt := 31) dX10_areNeighbours_26 rfl (fun c13 => ?_) (fun c13 => ?_)
      · have hw := hw.2 c13
        refine G_aload_n dX10_areNeighbours_31 rfl ?_
        obtain ⟨c14, hw⟩ := wp_ck hw
        refine G_getR fl_X10_valley w_507 dX10_areNeighbours_32 c14 ?_
        obtain ⟨a15, ea15, hw⟩ := wp_rq hw
        refine G.sure ea15 ?_
        obtain ⟨c16, hw⟩ := wp_ck hw
        refine G_getNR fl_X6_houseFlue w_444 dX10_areNeighbours_35 c16 ?_
        obtain ⟨a17, ea17, hw⟩ := wp_rq hw
        refine G.sure ea17 ?_
        refine G_iload_n dX10_areNeighbours_38 rfl ?_
        obtain ⟨c18, hw⟩ := wp_ck hw
        obtain ⟨c19, hw⟩ := wp_ck hw
        refine G_iaload dX10_areNeighbours_39 c18 c19 ?_
        refine G_aload_n dX10_areNeighbours_40 rfl ?_
        refine G_getR fl_X10_valley w_507 dX10_areNeighbours_41 c14 ?_
        obtain ⟨a20, ea20, hw⟩ := wp_rq hw
        refine G.sure ea20 ?_
        obtain ⟨c21, hw⟩ := wp_ck hw
        refine G_getNR fl_X6_houseFlue w_444 dX10_areNeighbours_44 c21 ?_
        obtain ⟨a22, ea22, hw⟩ := wp_rq hw
        refine G.sure ea22 ?_
        refine G_iload_n dX10_areNeighbours_47 rfl ?_
        obtain ⟨c23, hw⟩ := wp_ck hw
        obtain ⟨c24, hw⟩ := wp_ck hw
        refine G_iaload dX10_areNeighbours_48 c23 c24 ?_
        have hw := wp_if hw
        refine G_icmp_ne (tgt := 84) dX10_areNeighbours_49 rfl (fun c25 => ?_) (fun c25 => ?_)
        · have hw := hw.2 c25
          refine G_iconst (v := (0 : Int32)) dX10_areNeighbours_84 (by decide) ?_
          exact G_zreturn rfl dX10_areNeighbours_85 rfl ⟨_, rfl, wp_ret hw⟩
        · have hw := hw.1 c25
          refine G_aload_n dX10_areNeighbours_52 rfl ?_
          refine G_getR fl_X10_now w_498 dX10_areNeighbours_53 c14 ?_
          obtain ⟨a26, ea26, hw⟩ := wp_rq hw
          refine G.sure ea26 ?_
          obtain ⟨c27, hw⟩ := wp_ck hw
          refine G_getNR fl_X2_state w_257 dX10_areNeighbours_56 c27 ?_
          obtain ⟨a28, ea28, hw⟩ := wp_rq hw
          refine G.sure ea28 ?_
          refine G_iload_n dX10_areNeighbours_59 rfl ?_
          obtain ⟨c31, hw⟩ := wp_ck hw
          refine G_callV (As := [.int l1]) (s_X4_burns hs a28 l1 h10 _ (wp_cl hw)) ca_X4_burns w_1024 w_1025 (ci := 4) rfl (by decide) w_1217 c31 (Nat.le_of_ble_eq_true rfl) (Nat.le_of_ble_eq_true rfl) rfl (Nat.le_of_ble_eq_true rfl) (Nat.le_of_ble_eq_true rfl) (Nat.le_of_ble_eq_true rfl) dX10_areNeighbours_60 rfl (fun v h30 hq => ?_)
          obtain ⟨r29, rfl, hw⟩ := hq
          refine G.cse (cs' := (0, 0)) rfl ?_
          show GZ _ _ _ _ _ _ _ 63 _ (.int r29 :: []) _ _
          have hw := wp_if hw
          refine G_if_ne (tgt := 84) dX10_areNeighbours_63 rfl (fun c32 => ?_) (fun c32 => ?_)
          · have hw := hw.2 c32
            refine G_iconst (v := (0 : Int32)) dX10_areNeighbours_84 (by decide) ?_
            exact G_zreturn rfl dX10_areNeighbours_85 rfl ⟨_, rfl, wp_ret hw⟩
          · have hw := hw.1 c32
            refine G_aload_n dX10_areNeighbours_66 rfl ?_
            obtain ⟨c33, hw⟩ := wp_ck hw
            refine G_getR fl_X10_now w_498 dX10_areNeighbours_67 c33 ?_
            obtain ⟨a34, ea34, hw⟩ := wp_rq hw
            refine G.sure ea34 ?_
            obtain ⟨c35, hw⟩ := wp_ck hw
            refine G_getNR fl_X2_state w_257 dX10_areNeighbours_70 c35 ?_
            obtain ⟨a36, ea36, hw⟩ := wp_rq hw
            refine G.sure ea36 ?_
            refine G_iload_n dX10_areNeighbours_73 rfl ?_
            obtain ⟨c39, hw⟩ := wp_ck hw
            refine G_callV (As := [.int l2]) (s_X4_burns hs a36 l2 h30 _ (wp_cl hw)) ca_X4_burns w_1024 w_1025 (ci := 4) rfl (by decide) w_1217 c39 (Nat.le_of_ble_eq_true rfl) (Nat.le_of_ble_eq_true rfl) rfl (Nat.le_of_ble_eq_true rfl) (Nat.le_of_ble_eq_true rfl) (Nat.le_of_ble_eq_true rfl) dX10_areNeighbours_74 rfl (fun v h38 hq => ?_)
            obtain ⟨r37, rfl, hw⟩ := hq
            refine G.cse (cs' := (0, 0)) rfl ?_
            show GZ _ _ _ _ _ _ _ 77 _ (.int r37 :: []) _ _
            have hw := wp_if hw
            refine G_if_ne (tgt := 84) dX10_areNeighbours_77 rfl (fun c40 => ?_) (fun c40 => ?_)
            · have hw := hw.2 c40
              refine G_iconst (v := (0 : Int32)) dX10_areNeighbours_84 (by decide) ?_
              exact G_zreturn rfl dX10_areNeighbours_85 rfl ⟨_, rfl, wp_ret hw⟩
            · have hw := hw.1 c40
              refine G_iconst (v := (1 : Int32)) dX10_areNeighbours_80 (by decide) ?_
              refine G_goto (tgt := 85) dX10_areNeighbours_81 rfl ?_
              exact G_zreturn rfl dX10_areNeighbours_85 rfl ⟨_, rfl, wp_ret hw⟩
      · have hw := hw.1 c13
        refine G_iconst (v := (0 : Int32)) dX10_areNeighbours_29 (by decide) ?_
        exact G_zreturn rfl dX10_areNeighbours_30 rfl ⟨_, rfl, wp_ret hw⟩
set_option maxHeartbeats 4000000 in
set_option maxRecDepth 100000 in
theorem s_X10_mayTake {Γ : GX} (hs : SF Γ) {N : Nat} (l0 : Nat) (l1 : Int32) (l2 : Int32) (h : PH) (Q : Int32 → PH → Prop) (hw : wp (f_X10_mayTake N l0 l1 l2 h) Q) : Spec Γ yX10_mayTake cX10_mayTake 3 (some .boolean) (4, 0, 0) [.ref l0, .int l1, .int l2] h (q_i Q) := by
  refine Spec.of (by decide) (Nat.le_of_ble_eq_true rfl) [some (.ref l0), some (.int l1), some (.int l2)] rfl ?_
  unfold f_X10_mayTake at hw
  refine G_iload_n dX10_mayTake_0 rfl ?_
  refine G_aload_n dX10_mayTake_1 rfl ?_
  obtain ⟨c1, hw⟩ := wp_ck hw
  refine G_getR fl_X10_valley w_507 dX10_mayTake_2 c1 ?_
  obtain ⟨a2, ea2, hw⟩ := wp_rq hw
  refine G.sure ea2 ?_
  obtain ⟨c3, hw⟩ := wp_ck hw
  refine G_getNR fl_X6_many w_431 dX10_mayTake_5 c3 ?_
  obtain ⟨a4, ea4, hw⟩ := wp_rq hw
  refine G.sure ea4 ?_
  refine G_iconst (v := (0 : Int32)) dX10_mayTake_8 (by decide) ?_
  obtain ⟨c5, hw⟩ := wp_ck hw
  obtain ⟨c6, hw⟩ := wp_ck hw
  refine G_ialoadK (k := 0) dX10_mayTake_9 c5 (by decide) rfl c6 ?_
  have hw := wp_if hw
  refine G_icmp_eq (tgt := 22) dX10_mayTake_10 rfl (fun c7 => ?_) (fun c7 => ?_)
  · have hw := hw.1 c7
    refine G_iconst (v := (1 : Int32)) dX10_mayTake_22 (by decide) ?_
    refine G_goto (tgt := 27) dX10_mayTake_23 rfl ?_
    exact G_zreturn rfl dX10_mayTake_27 rfl ⟨_, rfl, wp_ret hw⟩
  · have hw := hw.2 c7
    refine G_aload_n dX10_mayTake_13 rfl ?_
    refine G_iload_n dX10_mayTake_14 rfl ?_
    refine G_iload_n dX10_mayTake_15 rfl ?_
    refine G_callV (As := [.int l1, .int l2]) (s_X10_canBurn hs l0 l1 l2 h _ (wp_cl hw)) ca_X10_canBurn w_1017 w_22 (ci := 9) rfl (by decide) w_1015 c1 (Nat.le_of_ble_eq_true rfl) (Nat.le_of_ble_eq_true rfl) rfl (Nat.le_of_ble_eq_true rfl) (Nat.le_of_ble_eq_true rfl) (Nat.le_of_ble_eq_true rfl) dX10_mayTake_16 rfl (fun v h9 hq => ?_)
    obtain ⟨r8, rfl, hw⟩ := hq
    refine G.cse (cs' := (0, 0)) rfl ?_
    show GZ _ _ _ _ _ _ _ 19 _ (.int r8 :: []) _ _
    have hw := wp_if hw
    refine G_if_eq (tgt := 26) dX10_mayTake_19 rfl (fun c10 => ?_) (fun c10 => ?_)
    · have hw := hw.1 c10
      refine G_iconst (v := (0 : Int32)) dX10_mayTake_26 (by decide) ?_
      exact G_zreturn rfl dX10_mayTake_27 rfl ⟨_, rfl, wp_ret hw⟩
    · have hw := hw.2 c10
      refine G_iconst (v := (1 : Int32)) dX10_mayTake_22 (by decide) ?_
      refine G_goto (tgt := 27) dX10_mayTake_23 rfl ?_
      exact G_zreturn rfl dX10_mayTake_27 rfl ⟨_, rfl, wp_ret hw⟩
set_option maxHeartbeats 4000000 in
set_option maxRecDepth 100000 in
theorem s_X10_signWith {Γ : GX} (hs : SF Γ) {N : Nat} (l0 : Nat) (l1 : Int32) (l2 : Int32) (l3 : Int32) (h : PH) (Q : Int32 → PH → Prop) (hw : wp (f_X10_signWith N l0 l1 l2 l3 h) Q) : Spec Γ yX10_signWith cX10_signWith 8 (some .int) (5, 0, 0) [.ref l0, .int l1, .int l2, .int l3] h (q_i Q) := by
  refine Spec.of (by decide) (Nat.le_of_ble_eq_true rfl) [some (.ref l0), some (.int l1), some (.int l2), some (.int l3), none, none, none, none] rfl ?_
  unfold f_X10_signWith at hw
  refine G_aload_n dX10_signWith_0 rfl ?_
  obtain ⟨c1, hw⟩ := wp_ck hw
  refine G_getR fl_X10_valley w_507 dX10_signWith_1 c1 ?_
  obtain ⟨a2, ea2, hw⟩ := wp_rq hw
  refine G.sure ea2 ?_
  refine G_iload_n dX10_signWith_4 rfl ?_
  obtain ⟨c5, hw⟩ := wp_ck hw
  refine G_callV (As := [.int l1]) (s_X6_housesAt hs a2 l1 h _ (wp_cl hw)) ca_X6_housesAt w_967 w_968 (ci := 6) rfl (by decide) w_966 c5 (Nat.le_of_ble_eq_true rfl) (Nat.le_of_ble_eq_true rfl) rfl (Nat.le_of_ble_eq_true rfl) (Nat.le_of_ble_eq_true rfl) (Nat.le_of_ble_eq_true rfl) dX10_signWith_5 rfl (fun v h4 hq => ?_)
  obtain ⟨r3, rfl, hw⟩ := hq
  refine G.cse (cs' := (0, 0)) rfl ?_
  show GZ _ _ _ _ _ _ _ 8 _ (.int r3 :: []) _ _
  refine G_istore (lv' := [some (.ref l0), some (.int l1), some (.int l2), some (.int l3), some (.int r3), none, none, none]) dX10_signWith_8 (Nat.le_of_ble_eq_true rfl) rfl ?_
  refine G_aload_n dX10_signWith_10 rfl ?_
  obtain ⟨c6, hw⟩ := wp_ck hw
  refine G_getR fl_X10_valley w_507 dX10_signWith_11 c6 ?_
  obtain ⟨a7, ea7, hw⟩ := wp_rq hw
  refine G.sure ea7 ?_
  refine G_aload_n dX10_signWith_14 rfl ?_
  refine G_getR fl_X10_now w_498 dX10_signWith_15 c6 ?_
  obtain ⟨a8, ea8, hw⟩ := wp_rq hw
  refine G.sure ea8 ?_
  obtain ⟨c9, hw⟩ := wp_ck hw
  refine G_getNR fl_X2_state w_257 dX10_signWith_18 c9 ?_
  obtain ⟨a10, ea10, hw⟩ := wp_rq hw
  refine G.sure ea10 ?_
  obtain ⟨c11, hw⟩ := wp_ck hw
  refine G_getNI fl_X4_hour w_219 dX10_signWith_21 c11 ?_
  obtain ⟨c14, hw⟩ := wp_ck hw
  refine G_callV (As := [.int (hI h4 a10 0)]) (s_X6_windAt hs a7 (hI h4 a10 0) h4 _ (wp_cl hw)) ca_X6_windAt w_975 w_976 (ci := 6) rfl (by decide) w_1290 c14 (Nat.le_of_ble_eq_true rfl) (Nat.le_of_ble_eq_true rfl) rfl (Nat.le_of_ble_eq_true rfl) (Nat.le_of_ble_eq_true rfl) (Nat.le_of_ble_eq_true rfl) dX10_signWith_24 rfl (fun v h13 hq => ?_)
  obtain ⟨r12, rfl, hw⟩ := hq
  refine G.cse (cs' := (0, 0)) rfl ?_
  show GZ _ _ _ _ _ _ _ 27 _ (.int r12 :: []) _ _
  refine G_istore (lv' := [some (.ref l0), some (.int l1), some (.int l2), some (.int l3), some (.int r3), some (.int r12), none, none]) dX10_signWith_27 (Nat.le_of_ble_eq_true rfl) rfl ?_
  refine G_aload_n dX10_signWith_29 rfl ?_
  obtain ⟨c15, hw⟩ := wp_ck hw
  refine G_getR fl_X10_now w_498 dX10_signWith_30 c15 ?_
  obtain ⟨a16, ea16, hw⟩ := wp_rq hw
  refine G.sure ea16 ?_
  obtain ⟨c17, hw⟩ := wp_ck hw
  refine G_getNR fl_X2_state w_257 dX10_signWith_33 c17 ?_
  obtain ⟨a18, ea18, hw⟩ := wp_rq hw
  refine G.sure ea18 ?_
  refine G_aload_n dX10_signWith_36 rfl ?_
  refine G_getR fl_X10_valley w_507 dX10_signWith_37 c15 ?_
  obtain ⟨a19, ea19, hw⟩ := wp_rq hw
  refine G.sure ea19 ?_
  refine G_iload dX10_signWith_40 rfl ?_
  refine G_iconst (v := (0 : Int32)) dX10_signWith_42 (by decide) ?_
  obtain ⟨c22, hw⟩ := wp_ck hw
  refine G_callV (As := [.ref a19, .int r3, .int (0 : Int32)]) (s_X4_smoke hs a18 a19 r3 (0 : Int32) h13 _ (wp_cl hw)) ca_X4_smoke w_971 w_972 (ci := 4) rfl (by decide) w_970 c22 (Nat.le_of_ble_eq_true rfl) (Nat.le_of_ble_eq_true rfl) rfl (Nat.le_of_ble_eq_true rfl) (Nat.le_of_ble_eq_true rfl) (Nat.le_of_ble_eq_true rfl) dX10_signWith_43 rfl (fun v h21 hq => ?_)
  obtain ⟨r20, rfl, hw⟩ := hq
  refine G.cse (cs' := (0, 0)) rfl ?_
  show GZ _ _ _ _ _ _ _ 46 _ (.int r20 :: []) _ _
  refine G_istore (lv' := [some (.ref l0), some (.int l1), some (.int l2), some (.int l3), some (.int r3), some (.int r12), some (.int r20), none]) dX10_signWith_46 (Nat.le_of_ble_eq_true rfl) rfl ?_
  refine G_iload dX10_signWith_48 rfl ?_
  refine G_aload_n dX10_signWith_50 rfl ?_
  obtain ⟨c23, hw⟩ := wp_ck hw
  refine G_getR fl_X10_valley w_507 dX10_signWith_51 c23 ?_
  obtain ⟨a24, ea24, hw⟩ := wp_rq hw
  refine G.sure ea24 ?_
  refine G_iload_n dX10_signWith_54 rfl ?_
  refine G_iload dX10_signWith_55 rfl ?_
  refine G_iconst (v := (0 : Int32)) dX10_signWith_57 (by decide) ?_
  obtain ⟨c27, hw⟩ := wp_ck hw
  refine G_callV (As := [.int l2, .int r12, .int (0 : Int32)]) (s_X6_fresh hs a24 l2 r12 (0 : Int32) h21 _ (wp_cl hw)) ca_X6_fresh w_1148 w_1149 (ci := 6) rfl (by decide) w_1380 c27 (Nat.le_of_ble_eq_true rfl) (Nat.le_of_ble_eq_true rfl) rfl (Nat.le_of_ble_eq_true rfl) (Nat.le_of_ble_eq_true rfl) (Nat.le_of_ble_eq_true rfl) dX10_signWith_58 rfl (fun v h26 hq => ?_)
  obtain ⟨r25, rfl, hw⟩ := hq
  refine G.cse (cs' := (0, 0)) rfl ?_
  show GZ _ _ _ _ _ _ _ 61 _ (.int r25 :: [.int r20]) _ _
  refine G_aload_n dX10_signWith_61 rfl ?_
  obtain ⟨c28, hw⟩ := wp_ck hw
  refine G_getR fl_X10_valley w_507 dX10_signWith_62 c28 ?_
  obtain ⟨a29, ea29, hw⟩ := wp_rq hw
  refine G.sure ea29 ?_
  refine G_iload_n dX10_signWith_65 rfl ?_
  refine G_iload dX10_signWith_66 rfl ?_
  refine G_iconst (v := (0 : Int32)) dX10_signWith_68 (by decide) ?_
  obtain ⟨c32, hw⟩ := wp_ck hw
  refine G_callV (As := [.int l3, .int r12, .int (0 : Int32)]) (s_X6_fresh hs a29 l3 r12 (0 : Int32) h26 _ (wp_cl hw)) ca_X6_fresh w_1148 w_1149 (ci := 6) rfl (by decide) w_1380 c32 (Nat.le_of_ble_eq_true rfl) (Nat.le_of_ble_eq_true rfl) rfl (Nat.le_of_ble_eq_true rfl) (Nat.le_of_ble_eq_true rfl) (Nat.le_of_ble_eq_true rfl) dX10_signWith_69 rfl (fun v h31 hq => ?_)
  obtain ⟨r30, rfl, hw⟩ := hq
  refine G.cse (cs' := (0, 0)) rfl ?_
  show GZ _ _ _ _ _ _ _ 72 _ (.int r30 :: [.int r25, .int r20]) _ _
  refine G_iadd dX10_signWith_72 ?_
  refine G_iadd dX10_signWith_73 ?_
  refine G.topi fun v33 ev33 => ?_
  have hw := wp_bd hw v33 ev33
  refine G_istore (lv' := [some (.ref l0), some (.int l1), some (.int l2), some (.int l3), some (.int r3), some (.int r12), some (.int v33), none]) dX10_signWith_74 (Nat.le_of_ble_eq_true rfl) rfl ?_
  refine G_aload_n dX10_signWith_76 rfl ?_
  obtain ⟨c34, hw⟩ := wp_ck hw
  refine G_getR fl_X10_now w_498 dX10_signWith_77 c34 ?_
  obtain ⟨a35, ea35, hw⟩ := wp_rq hw
  refine G.sure ea35 ?_
  obtain ⟨c36, hw⟩ := wp_ck hw
  refine G_getNR fl_X2_state w_257 dX10_signWith_80 c36 ?_
  obtain ⟨a37, ea37, hw⟩ := wp_rq hw
  refine G.sure ea37 ?_
  refine G_aload_n dX10_signWith_83 rfl ?_
  refine G_getR fl_X10_valley w_507 dX10_signWith_84 c34 ?_
  obtain ⟨a38, ea38, hw⟩ := wp_rq hw
  refine G.sure ea38 ?_
  refine G_iload dX10_signWith_87 rfl ?_
  refine G_iconst (v := (1 : Int32)) dX10_signWith_89 (by decide) ?_
  obtain ⟨c41, hw⟩ := wp_ck hw
  refine G_callV (As := [.ref a38, .int r3, .int (1 : Int32)]) (s_X4_smoke hs a37 a38 r3 (1 : Int32) h31 _ (wp_cl hw)) ca_X4_smoke w_971 w_972 (ci := 4) rfl (by decide) w_970 c41 (Nat.le_of_ble_eq_true rfl) (Nat.le_of_ble_eq_true rfl) rfl (Nat.le_of_ble_eq_true rfl) (Nat.le_of_ble_eq_true rfl) (Nat.le_of_ble_eq_true rfl) dX10_signWith_90 rfl (fun v h40 hq => ?_)
  obtain ⟨r39, rfl, hw⟩ := hq
  refine G.cse (cs' := (0, 0)) rfl ?_
  show GZ _ _ _ _ _ _ _ 93 _ (.int r39 :: []) _ _
  refine G_istore (lv' := [some (.ref l0), some (.int l1), some (.int l2), some (.int l3), some (.int r3), some (.int r12), some (.int v33), some (.int r39)]) dX10_signWith_93 (Nat.le_of_ble_eq_true rfl) rfl ?_
  refine G_iload dX10_signWith_95 rfl ?_
  refine G_aload_n dX10_signWith_97 rfl ?_
  obtain ⟨c42, hw⟩ := wp_ck hw
  refine G_getR fl_X10_valley w_507 dX10_signWith_98 c42 ?_
  obtain ⟨a43, ea43, hw⟩ := wp_rq hw
  refine G.sure ea43 ?_
  refine G_iload_n dX10_signWith_101 rfl ?_
  refine G_iload dX10_signWith_102 rfl ?_
  refine G_iconst (v := (1 : Int32)) dX10_signWith_104 (by decide) ?_
  obtain ⟨c46, hw⟩ := wp_ck hw
  refine G_callV (As := [.int l2, .int r12, .int (1 : Int32)]) (s_X6_fresh hs a43 l2 r12 (1 : Int32) h40 _ (wp_cl hw)) ca_X6_fresh w_1148 w_1149 (ci := 6) rfl (by decide) w_1380 c46 (Nat.le_of_ble_eq_true rfl) (Nat.le_of_ble_eq_true rfl) rfl (Nat.le_of_ble_eq_true rfl) (Nat.le_of_ble_eq_true rfl) (Nat.le_of_ble_eq_true rfl) dX10_signWith_105 rfl (fun v h45 hq => ?_)
  obtain ⟨r44, rfl, hw⟩ := hq
  refine G.cse (cs' := (0, 0)) rfl ?_
  show GZ _ _ _ _ _ _ _ 108 _ (.int r44 :: [.int r39]) _ _
  refine G_aload_n dX10_signWith_108 rfl ?_
  obtain ⟨c47, hw⟩ := wp_ck hw
  refine G_getR fl_X10_valley w_507 dX10_signWith_109 c47 ?_
  obtain ⟨a48, ea48, hw⟩ := wp_rq hw
  refine G.sure ea48 ?_
  refine G_iload_n dX10_signWith_112 rfl ?_
  refine G_iload dX10_signWith_113 rfl ?_
  refine G_iconst (v := (1 : Int32)) dX10_signWith_115 (by decide) ?_
  obtain ⟨c51, hw⟩ := wp_ck hw
  refine G_callV (As := [.int l3, .int r12, .int (1 : Int32)]) (s_X6_fresh hs a48 l3 r12 (1 : Int32) h45 _ (wp_cl hw)) ca_X6_fresh w_1148 w_1149 (ci := 6) rfl (by decide) w_1380 c51 (Nat.le_of_ble_eq_true rfl) (Nat.le_of_ble_eq_true rfl) rfl (Nat.le_of_ble_eq_true rfl) (Nat.le_of_ble_eq_true rfl) (Nat.le_of_ble_eq_true rfl) dX10_signWith_116 rfl (fun v h50 hq => ?_)
  obtain ⟨r49, rfl, hw⟩ := hq
  refine G.cse (cs' := (0, 0)) rfl ?_
  show GZ _ _ _ _ _ _ _ 119 _ (.int r49 :: [.int r44, .int r39]) _ _
  refine G_iadd dX10_signWith_119 ?_
  refine G_iadd dX10_signWith_120 ?_
  refine G.topi fun v52 ev52 => ?_
  have hw := wp_bd hw v52 ev52
  refine G_istore (lv' := [some (.ref l0), some (.int l1), some (.int l2), some (.int l3), some (.int r3), some (.int r12), some (.int v33), some (.int v52)]) dX10_signWith_121 (Nat.le_of_ble_eq_true rfl) rfl ?_
  refine G_aload_n dX10_signWith_123 rfl ?_
  obtain ⟨c53, hw⟩ := wp_ck hw
  refine G_getR fl_X10_valley w_507 dX10_signWith_124 c53 ?_
  obtain ⟨a54, ea54, hw⟩ := wp_rq hw
  refine G.sure ea54 ?_
  refine G_iload dX10_signWith_127 rfl ?_
  refine G_iload dX10_signWith_129 rfl ?_
  obtain ⟨c57, hw⟩ := wp_ck hw
  refine G_callV (As := [.int v33, .int v52]) (s_X6_signOf hs a54 v33 v52 h50 _ (wp_cl hw)) ca_X6_signOf w_1003 w_1004 (ci := 6) rfl (by decide) w_1381 c57 (Nat.le_of_ble_eq_true rfl) (Nat.le_of_ble_eq_true rfl) rfl (Nat.le_of_ble_eq_true rfl) (Nat.le_of_ble_eq_true rfl) (Nat.le_of_ble_eq_true rfl) dX10_signWith_131 rfl (fun v h56 hq => ?_)
  obtain ⟨r55, rfl, hw⟩ := hq
  refine G.cse (cs' := (0, 0)) rfl ?_
  show GZ _ _ _ _ _ _ _ 134 _ (.int r55 :: []) _ _
  exact G_ireturn rfl dX10_signWith_134 ⟨_, rfl, wp_ret hw⟩
set_option maxHeartbeats 4000000 in
set_option maxRecDepth 100000 in
theorem f_X10_gainOf_48_ok {Γ : GX} (hs : SF Γ) {N : Nat} (s0 : Int32) (s1 : Int32) (h : PH) (Q : Int32 → PH → Prop) (hw : wp (f_X10_gainOf_48 N s0 s1 h) Q) : G Γ yX10_gainOf cX10_gainOf 7 (some .int) (6, 0, 0) 48 [none, none, none, none, none, none, none] [.int s0, .int s1] h (0, 0) (q_i Q) := by
  unfold f_X10_gainOf_48 at hw
  refine G_isub dX10_gainOf_48 ?_
  exact G_ireturn rfl dX10_gainOf_49 ⟨_, rfl, wp_ret hw⟩
set_option maxHeartbeats 4000000 in
set_option maxRecDepth 100000 in
theorem f_X10_gainOf_30_ok {Γ : GX} (hs : SF Γ) {N : Nat} (s0 : Int32) (l0 : Nat) (l2 : Int32) (h : PH) (Q : Int32 → PH → Prop) (hw : wp (f_X10_gainOf_30 N s0 l0 l2 h) Q) : G Γ yX10_gainOf cX10_gainOf 7 (some .int) (6, 0, 0) 30 [some (.ref l0), none, some (.int l2), none, none, none, none] [.int s0] h (0, 0) (q_i Q) := by
  unfold f_X10_gainOf_30 at hw
  refine G_iload_n dX10_gainOf_30 rfl ?_
  refine G_aload_n dX10_gainOf_31 rfl ?_
  obtain ⟨c1, hw⟩ := wp_ck hw
  refine G_getR fl_X10_valley w_507 dX10_gainOf_32 c1 ?_
  obtain ⟨a2, ea2, hw⟩ := wp_rq hw
  refine G.sure ea2 ?_
  obtain ⟨c3, hw⟩ := wp_ck hw
  refine G_getNR fl_X6_many w_431 dX10_gainOf_35 c3 ?_
  obtain ⟨a4, ea4, hw⟩ := wp_rq hw
  refine G.sure ea4 ?_
  refine G_iconst (v := (0 : Int32)) dX10_gainOf_38 (by decide) ?_
  obtain ⟨c5, hw⟩ := wp_ck hw
  obtain ⟨c6, hw⟩ := wp_ck hw
  refine G_ialoadK (k := 0) dX10_gainOf_39 c5 (by decide) rfl c6 ?_
  have hw := wp_if hw
  refine G_icmp_ge (tgt := 47) dX10_gainOf_40 rfl (fun c7 => ?_) (fun c7 => ?_)
  · have hw := hw.1 c7
    refine G_iconst (v := (0 : Int32)) dX10_gainOf_47 (by decide) ?_
    refine G.less [none, none, none, none, none, none, none] trivial ?_
    exact f_X10_gainOf_48_ok hs _ _ h Q hw
  · have hw := hw.2 c7
    refine G_iconst (v := (1 : Int32)) dX10_gainOf_43 (by decide) ?_
    refine G_goto (tgt := 48) dX10_gainOf_44 rfl ?_
    refine G.less [none, none, none, none, none, none, none] trivial ?_
    exact f_X10_gainOf_48_ok hs _ _ h Q hw
set_option maxHeartbeats 4000000 in
set_option maxRecDepth 100000 in
theorem s_X10_gainOf {Γ : GX} (hs : SF Γ) {N : Nat} (l0 : Nat) (l1 : Int32) (l2 : Int32) (l3 : Int32) (l4 : Int32) (l5 : Int32) (h : PH) (Q : Int32 → PH → Prop) (hw : wp (f_X10_gainOf N l0 l1 l2 l3 l4 l5 h) Q) : Spec Γ yX10_gainOf cX10_gainOf 7 (some .int) (6, 0, 0) [.ref l0, .int l1, .int l2, .int l3, .int l4, .int l5] h (q_i Q) := by
  refine Spec.of (by decide) (Nat.le_of_ble_eq_true rfl) [some (.ref l0), some (.int l1), some (.int l2), some (.int l3), some (.int l4), some (.int l5), none] rfl ?_
  unfold f_X10_gainOf at hw
  refine G_aload_n dX10_gainOf_0 rfl ?_
  refine G_aload_n dX10_gainOf_1 rfl ?_
  obtain ⟨c1, hw⟩ := wp_ck hw
  refine G_getR fl_X10_valley w_507 dX10_gainOf_2 c1 ?_
  obtain ⟨a2, ea2, hw⟩ := wp_rq hw
  refine G.sure ea2 ?_
  obtain ⟨c3, hw⟩ := wp_ck hw
  refine G_getNR fl_X6_houseFlue w_444 dX10_gainOf_5 c3 ?_
  obtain ⟨a4, ea4, hw⟩ := wp_rq hw
  refine G.sure ea4 ?_
  refine G_iload_n dX10_gainOf_8 rfl ?_
  obtain ⟨c5, hw⟩ := wp_ck hw
  obtain ⟨c6, hw⟩ := wp_ck hw
  refine G_iaload dX10_gainOf_9 c5 c6 ?_
  refine G_iload_n dX10_gainOf_10 rfl ?_
  refine G_iload_n dX10_gainOf_11 rfl ?_
  refine G_callV (As := [.int (hI h a4 (ix l1)), .int l2, .int l3]) (s_X10_signWith hs l0 (hI h a4 (ix l1)) l2 l3 h _ (wp_cl hw)) ca_X10_signWith w_1378 w_42 (ci := 9) rfl (by decide) w_1376 c1 (Nat.le_of_ble_eq_true rfl) (Nat.le_of_ble_eq_true rfl) rfl (Nat.le_of_ble_eq_true rfl) (Nat.le_of_ble_eq_true rfl) (Nat.le_of_ble_eq_true rfl) dX10_gainOf_12 rfl (fun v h8 hq => ?_)
  obtain ⟨r7, rfl, hw⟩ := hq
  refine G.cse (cs' := (0, 0)) rfl ?_
  show GZ _ _ _ _ _ _ _ 15 _ (.int r7 :: []) _ _
  refine G_istore (lv' := [some (.ref l0), some (.int l1), some (.int l2), some (.int l3), some (.int l4), some (.int l5), some (.int r7)]) dX10_gainOf_15 (Nat.le_of_ble_eq_true rfl) rfl ?_
  refine G_iload dX10_gainOf_17 rfl ?_
  refine G_iload dX10_gainOf_19 rfl ?_
  have hw := wp_if hw
  refine G_icmp_ne (tgt := 29) dX10_gainOf_21 rfl (fun c9 => ?_) (fun c9 => ?_)
  · have hw := hw.2 c9
    refine G_iconst (v := (0 : Int32)) dX10_gainOf_29 (by decide) ?_
    refine G.less [some (.ref l0), none, some (.int l2), none, none, none, none] ⟨rfl, ⟨rfl, trivial⟩⟩ ?_
    exact f_X10_gainOf_30_ok hs _ _ _ h8 Q hw
  · have hw := hw.1 c9
    refine G_iload dX10_gainOf_24 rfl ?_
    refine G_goto (tgt := 30) dX10_gainOf_26 rfl ?_
    refine G.less [some (.ref l0), none, some (.int l2), none, none, none, none] ⟨rfl, ⟨rfl, trivial⟩⟩ ?_
    exact f_X10_gainOf_30_ok hs _ _ _ h8 Q hw
set_option maxHeartbeats 4000000 in
set_option maxRecDepth 100000 in
theorem f_X10_isContent_70_ok {Γ : GX} (hs : SF Γ) {N : Nat} {K_27 : Nat → Int32 → Int32 → Int32 → Int32 → Int32 → Int32 → PH → Option (Int32 × PH)} (hK_27 : ∀ (l0 : Nat) (l1 : Int32) (l3 : Int32) (l4 : Int32) (l5 : Int32) (l6 : Int32) (l7 : Int32) (h : PH) (Q : Int32 → PH → Prop), wp (K_27 l0 l1 l3 l4 l5 l6 l7 h) Q → G Γ yX10_isContent cX10_isContent 8 (some .boolean) (7, 0, 0) 27 [some (.ref l0), some (.int l1), none, some (.int l3), some (.int l4), some (.int l5), some (.int l6), some (.int l7)] [] h (0, 0) (q_i Q)) (l0 : Nat) (l1 : Int32) (l3 : Int32) (l4 : Int32) (l5 : Int32) (l6 : Int32) (l7 : Int32) (h : PH) (Q : Int32 → PH → Prop) (hw : wp (f_X10_isContent_70 N K_27 l0 l1 l3 l4 l5 l6 l7 h) Q) : G Γ yX10_isContent cX10_isContent 8 (some .boolean) (7, 0, 0) 70 [some (.ref l0), some (.int l1), none, some (.int l3), some (.int l4), some (.int l5), some (.int l6), some (.int l7)] [] h (0, 0) (q_i Q) := by
  unfold f_X10_isContent_70 at hw
  obtain ⟨v1, ev1⟩ : ∃ z : Int32, z = l7 + (1 : Int32) := ⟨_, rfl⟩
  have hw := wp_bd hw v1 ev1
  refine G_iinc (v := v1) (lv' := [some (.ref l0), some (.int l1), none, some (.int l3), some (.int l4), some (.int l5), some (.int l6), some (.int v1)]) dX10_isContent_70 rfl (by rw [ev1]; rfl) (Nat.le_of_ble_eq_true rfl) rfl ?_
  refine G_goto (tgt := 27) dX10_isContent_73 rfl ?_
  refine G.less [some (.ref l0), some (.int l1), none, some (.int l3), some (.int l4), some (.int l5), some (.int l6), some (.int v1)] ⟨rfl, ⟨rfl, ⟨rfl, ⟨rfl, ⟨rfl, ⟨rfl, ⟨rfl, trivial⟩⟩⟩⟩⟩⟩⟩ ?_
  exact hK_27 _ _ _ _ _ _ _ h Q hw
set_option maxHeartbeats 4000000 in
set_option maxRecDepth 100000 in
theorem f_X10_isContent_27_bok {Γ : GX} (hs : SF Γ) {N : Nat} {K_27 : Nat → Int32 → Int32 → Int32 → Int32 → Int32 → Int32 → PH → Option (Int32 × PH)} (hK_27 : ∀ (l0 : Nat) (l1 : Int32) (l3 : Int32) (l4 : Int32) (l5 : Int32) (l6 : Int32) (l7 : Int32) (h : PH) (Q : Int32 → PH → Prop), wp (K_27 l0 l1 l3 l4 l5 l6 l7 h) Q → G Γ yX10_isContent cX10_isContent 8 (some .boolean) (7, 0, 0) 27 [some (.ref l0), some (.int l1), none, some (.int l3), some (.int l4), some (.int l5), some (.int l6), some (.int l7)] [] h (0, 0) (q_i Q)) (l0 : Nat) (l1 : Int32) (l3 : Int32) (l4 : Int32) (l5 : Int32) (l6 : Int32) (l7 : Int32) (h : PH) (Q : Int32 → PH → Prop) (hw : wp (f_X10_isContent_27_b N K_27 l0 l1 l3 l4 l5 l6 l7 h) Q) : G Γ yX10_isContent cX10_isContent 8 (some .boolean) (7, 0, 0) 27 [some (.ref l0), some (.int l1), none, some (.int l3), some (.int l4), some (.int l5), some (.int l6), some (.int l7)] [] h (0, 0) (q_i Q) := by
  unfold f_X10_isContent_27_b at hw
  refine G_iload dX10_isContent_27 rfl ?_
  refine G_aload_n dX10_isContent_29 rfl ?_
  obtain ⟨c1, hw⟩ := wp_ck hw
  refine G_getR fl_X10_valley w_507 dX10_isContent_30 c1 ?_
  obtain ⟨a2, ea2, hw⟩ := wp_rq hw
  refine G.sure ea2 ?_
  obtain ⟨c3, hw⟩ := wp_ck hw
  refine G_getNR fl_X6_many w_431 dX10_isContent_33 c3 ?_
  obtain ⟨a4, ea4, hw⟩ := wp_rq hw
  refine G.sure ea4 ?_
  refine G_iconst (v := (0 : Int32)) dX10_isContent_36 (by decide) ?_
  obtain ⟨c5, hw⟩ := wp_ck hw
  obtain ⟨c6, hw⟩ := wp_ck hw
  refine G_ialoadK (k := 0) dX10_isContent_37 c5 (by decide) rfl c6 ?_
  have hw := wp_if hw
  refine G_icmp_gt (tgt := 76) dX10_isContent_38 rfl (fun c7 => ?_) (fun c7 => ?_)
  · have hw := hw.1 c7
    refine G_iconst (v := (1 : Int32)) dX10_isContent_76 (by decide) ?_
    exact G_zreturn rfl dX10_isContent_77 rfl ⟨_, rfl, wp_ret hw⟩
  · have hw := hw.2 c7
    refine G_aload_n dX10_isContent_41 rfl ?_
    refine G_iload_n dX10_isContent_42 rfl ?_
    refine G_iload dX10_isContent_43 rfl ?_
    refine G_callV (As := [.int l1, .int l7]) (s_X10_mayTake hs l0 l1 l7 h _ (wp_cl hw)) ca_X10_mayTake w_1370 w_40 (ci := 9) rfl (by decide) w_1368 c1 (Nat.le_of_ble_eq_true rfl) (Nat.le_of_ble_eq_true rfl) rfl (Nat.le_of_ble_eq_true rfl) (Nat.le_of_ble_eq_true rfl) (Nat.le_of_ble_eq_true rfl) dX10_isContent_45 rfl (fun v h9 hq => ?_)
    obtain ⟨r8, rfl, hw⟩ := hq
    refine G.cse (cs' := (0, 0)) rfl ?_
    show GZ _ _ _ _ _ _ _ 48 _ (.int r8 :: []) _ _
    have hw := wp_if hw
    refine G_if_eq (tgt := 70) dX10_isContent_48 rfl (fun c10 => ?_) (fun c10 => ?_)
    · have hw := hw.1 c10
      refine G.less [some (.ref l0), some (.int l1), none, some (.int l3), some (.int l4), some (.int l5), some (.int l6), some (.int l7)] ⟨rfl, ⟨rfl, ⟨rfl, ⟨rfl, ⟨rfl, ⟨rfl, ⟨rfl, trivial⟩⟩⟩⟩⟩⟩⟩ ?_
      exact f_X10_isContent_70_ok hs hK_27 _ _ _ _ _ _ _ h9 Q hw
    · have hw := hw.2 c10
      refine G_aload_n dX10_isContent_51 rfl ?_
      refine G_iload_n dX10_isContent_52 rfl ?_
      refine G_iload dX10_isContent_53 rfl ?_
      refine G_iload_n dX10_isContent_55 rfl ?_
      refine G_iload dX10_isContent_56 rfl ?_
      refine G_iload dX10_isContent_58 rfl ?_
      obtain ⟨c13, hw⟩ := wp_ck hw
      refine G_callV (As := [.int l1, .int l7, .int l3, .int l4, .int l5]) (s_X10_gainOf hs l0 l1 l7 l3 l4 l5 h9 _ (wp_cl hw)) ca_X10_gainOf w_1374 w_41 (ci := 9) rfl (by decide) w_1372 c13 (Nat.le_of_ble_eq_true rfl) (Nat.le_of_ble_eq_true rfl) rfl (Nat.le_of_ble_eq_true rfl) (Nat.le_of_ble_eq_true rfl) (Nat.le_of_ble_eq_true rfl) dX10_isContent_60 rfl (fun v h12 hq => ?_)
      obtain ⟨r11, rfl, hw⟩ := hq
      refine G.cse (cs' := (0, 0)) rfl ?_
      show GZ _ _ _ _ _ _ _ 63 _ (.int r11 :: []) _ _
      refine G_iload dX10_isContent_63 rfl ?_
      have hw := wp_if hw
      refine G_icmp_le (tgt := 70) dX10_isContent_65 rfl (fun c14 => ?_) (fun c14 => ?_)
      · have hw := hw.1 c14
        refine G.less [some (.ref l0), some (.int l1), none, some (.int l3), some (.int l4), some (.int l5), some (.int l6), some (.int l7)] ⟨rfl, ⟨rfl, ⟨rfl, ⟨rfl, ⟨rfl, ⟨rfl, ⟨rfl, trivial⟩⟩⟩⟩⟩⟩⟩ ?_
        exact f_X10_isContent_70_ok hs hK_27 _ _ _ _ _ _ _ h12 Q hw
      · have hw := hw.2 c14
        refine G_iconst (v := (0 : Int32)) dX10_isContent_68 (by decide) ?_
        exact G_zreturn rfl dX10_isContent_69 rfl ⟨_, rfl, wp_ret hw⟩
theorem f_X10_isContent_27_ok {Γ : GX} (hs : SF Γ) {N : Nat} : ∀ (n : Nat) (l0 : Nat) (l1 : Int32) (l3 : Int32) (l4 : Int32) (l5 : Int32) (l6 : Int32) (l7 : Int32) (h : PH) (Q : Int32 → PH → Prop), wp (f_X10_isContent_27 N n l0 l1 l3 l4 l5 l6 l7 h) Q → G Γ yX10_isContent cX10_isContent 8 (some .boolean) (7, 0, 0) 27 [some (.ref l0), some (.int l1), none, some (.int l3), some (.int l4), some (.int l5), some (.int l6), some (.int l7)] [] h (0, 0) (q_i Q)
  | 0, _, _, _, _, _, _, _, _, Q, hw => (wp_no hw).elim
  | n + 1, l0, l1, l3, l4, l5, l6, l7, h, Q, hw => f_X10_isContent_27_bok (N := N) hs (f_X10_isContent_27_ok (N := N) hs n) l0 l1 l3 l4 l5 l6 l7 h Q hw
set_option maxHeartbeats 4000000 in
set_option maxRecDepth 100000 in
theorem s_X10_isContent {Γ : GX} (hs : SF Γ) {N : Nat} (l0 : Nat) (l1 : Int32) (l2 : Int32) (l3 : Int32) (l4 : Int32) (l5 : Int32) (h : PH) (Q : Int32 → PH → Prop) (hw : wp (f_X10_isContent N l0 l1 l2 l3 l4 l5 h) Q) : Spec Γ yX10_isContent cX10_isContent 8 (some .boolean) (7, 0, 0) [.ref l0, .int l1, .int l2, .int l3, .int l4, .int l5] h (q_i Q) := by
  refine Spec.of (by decide) (Nat.le_of_ble_eq_true rfl) [some (.ref l0), some (.int l1), some (.int l2), some (.int l3), some (.int l4), some (.int l5), none, none] rfl ?_
  unfold f_X10_isContent at hw
  refine G_aload_n dX10_isContent_0 rfl ?_
  refine G_iload_n dX10_isContent_1 rfl ?_
  refine G_iload_n dX10_isContent_2 rfl ?_
  obtain ⟨c3, hw⟩ := wp_ck hw
  refine G_callV (As := [.int l1, .int l2]) (s_X10_mayTake hs l0 l1 l2 h _ (wp_cl hw)) ca_X10_mayTake w_1370 w_40 (ci := 9) rfl (by decide) w_1368 c3 (Nat.le_of_ble_eq_true rfl) (Nat.le_of_ble_eq_true rfl) rfl (Nat.le_of_ble_eq_true rfl) (Nat.le_of_ble_eq_true rfl) (Nat.le_of_ble_eq_true rfl) dX10_isContent_3 rfl (fun v h2 hq => ?_)
  obtain ⟨r1, rfl, hw⟩ := hq
  refine G.cse (cs' := (0, 0)) rfl ?_
  show GZ _ _ _ _ _ _ _ 6 _ (.int r1 :: []) _ _
  have hw := wp_if hw
  refine G_if_ne (tgt := 11) dX10_isContent_6 rfl (fun c4 => ?_) (fun c4 => ?_)
  · have hw := hw.2 c4
    refine G_aload_n dX10_isContent_11 rfl ?_
    refine G_iload_n dX10_isContent_12 rfl ?_
    refine G_iload_n dX10_isContent_13 rfl ?_
    refine G_iload_n dX10_isContent_14 rfl ?_
    refine G_iload dX10_isContent_15 rfl ?_
    refine G_iload dX10_isContent_17 rfl ?_
    obtain ⟨c7, hw⟩ := wp_ck hw
    refine G_callV (As := [.int l1, .int l2, .int l3, .int l4, .int l5]) (s_X10_gainOf hs l0 l1 l2 l3 l4 l5 h2 _ (wp_cl hw)) ca_X10_gainOf w_1374 w_41 (ci := 9) rfl (by decide) w_1372 c7 (Nat.le_of_ble_eq_true rfl) (Nat.le_of_ble_eq_true rfl) rfl (Nat.le_of_ble_eq_true rfl) (Nat.le_of_ble_eq_true rfl) (Nat.le_of_ble_eq_true rfl) dX10_isContent_19 rfl (fun v h6 hq => ?_)
    obtain ⟨r5, rfl, hw⟩ := hq
    refine G.cse (cs' := (0, 0)) rfl ?_
    show GZ _ _ _ _ _ _ _ 22 _ (.int r5 :: []) _ _
    refine G_istore (lv' := [some (.ref l0), some (.int l1), some (.int l2), some (.int l3), some (.int l4), some (.int l5), some (.int r5), none]) dX10_isContent_22 (Nat.le_of_ble_eq_true rfl) rfl ?_
    refine G_iconst (v := (0 : Int32)) dX10_isContent_24 (by decide) ?_
    refine G_istore (lv' := [some (.ref l0), some (.int l1), some (.int l2), some (.int l3), some (.int l4), some (.int l5), some (.int r5), some (.int (0 : Int32))]) dX10_isContent_25 (Nat.le_of_ble_eq_true rfl) rfl ?_
    refine G.less [some (.ref l0), some (.int l1), none, some (.int l3), some (.int l4), some (.int l5), some (.int r5), some (.int (0 : Int32))] ⟨rfl, ⟨rfl, ⟨rfl, ⟨rfl, ⟨rfl, ⟨rfl, ⟨rfl, trivial⟩⟩⟩⟩⟩⟩⟩ ?_
    exact f_X10_isContent_27_ok hs N _ _ _ _ _ _ _ h6 Q hw
  · have hw := hw.1 c4
    refine G_iconst (v := (0 : Int32)) dX10_isContent_9 (by decide) ?_
    exact G_zreturn rfl dX10_isContent_10 rfl ⟨_, rfl, wp_ret hw⟩
set_option maxHeartbeats 4000000 in
set_option maxRecDepth 100000 in
theorem f_X10_rests_34_ok {Γ : GX} (hs : SF Γ) (ht : TF Γ) {N : Nat} (h : PH) (Q : Option Int32 → PH → Prop) (hw : wp (f_X10_rests_34 N  h) Q) : GT Γ yX10_rests cX10_rests 10 (some .int) (8, 1, 6) 34 [none, none, none, none, none, none, none, none, none, none] [] h (0, 0) Q := by
  unfold f_X10_rests_34 at hw
  exact GT_throw ht rfl dX10_rests_34 dX10_rests_37 dX10_rests_38 dX10_rests_41 (Nat.le_of_ble_eq_true rfl) (Nat.le_of_ble_eq_true rfl) (Nat.le_of_ble_eq_true rfl) (Nat.le_of_ble_eq_true rfl) (wp_ret hw)
set_option maxHeartbeats 4000000 in
set_option maxRecDepth 100000 in
theorem f_X10_rests_60_ok {Γ : GX} (hs : SF Γ) (ht : TF Γ) {N : Nat} (h : PH) (Q : Option Int32 → PH → Prop) (hw : wp (f_X10_rests_60 N  h) Q) : GT Γ yX10_rests cX10_rests 10 (some .int) (8, 1, 6) 60 [none, none, none, none, none, none, none, none, none, none] [] h (0, 0) Q := by
  unfold f_X10_rests_60 at hw
  exact GT_throw ht rfl dX10_rests_60 dX10_rests_63 dX10_rests_64 dX10_rests_67 (Nat.le_of_ble_eq_true rfl) (Nat.le_of_ble_eq_true rfl) (Nat.le_of_ble_eq_true rfl) (Nat.le_of_ble_eq_true rfl) (wp_ret hw)
set_option maxHeartbeats 4000000 in
set_option maxRecDepth 100000 in
theorem f_X10_rests_155_ok {Γ : GX} (hs : SF Γ) (ht : TF Γ) {N : Nat} {K_74 : Nat → Int32 → Int32 → Int32 → Int32 → Int32 → Int32 → Int32 → Int32 → PH → Option (Option Int32 × PH)} {K_91 : Nat → Int32 → Int32 → Int32 → Int32 → Int32 → Int32 → Int32 → Int32 → Int32 → PH → Option (Option Int32 × PH)} (hK_74 : ∀ (l0 : Nat) (l1 : Int32) (l2 : Int32) (l3 : Int32) (l4 : Int32) (l5 : Int32) (l6 : Int32) (l7 : Int32) (l8 : Int32) (h : PH) (Q : Option Int32 → PH → Prop), wp (K_74 l0 l1 l2 l3 l4 l5 l6 l7 l8 h) Q → GT Γ yX10_rests cX10_rests 10 (some .int) (8, 1, 6) 74 [some (.ref l0), some (.int l1), some (.int l2), some (.int l3), some (.int l4), some (.int l5), some (.int l6), some (.int l7), some (.int l8), none] [] h (0, 0) Q) (hK_91 : ∀ (l0 : Nat) (l1 : Int32) (l2 : Int32) (l3 : Int32) (l4 : Int32) (l5 : Int32) (l6 : Int32) (l7 : Int32) (l8 : Int32) (l9 : Int32) (h : PH) (Q : Option Int32 → PH → Prop), wp (K_91 l0 l1 l2 l3 l4 l5 l6 l7 l8 l9 h) Q → GT Γ yX10_rests cX10_rests 10 (some .int) (8, 1, 6) 91 [some (.ref l0), some (.int l1), some (.int l2), some (.int l3), some (.int l4), some (.int l5), some (.int l6), some (.int l7), some (.int l8), some (.int l9)] [] h (0, 0) Q) (l0 : Nat) (l1 : Int32) (l2 : Int32) (l3 : Int32) (l4 : Int32) (l5 : Int32) (l6 : Int32) (l7 : Int32) (l8 : Int32) (l9 : Int32) (h : PH) (Q : Option Int32 → PH → Prop) (hw : wp (f_X10_rests_155 N K_74 K_91 l0 l1 l2 l3 l4 l5 l6 l7 l8 l9 h) Q) : GT Γ yX10_rests cX10_rests 10 (some .int) (8, 1, 6) 155 [some (.ref l0), some (.int l1), some (.int l2), some (.int l3), some (.int l4), some (.int l5), some (.int l6), some (.int l7), some (.int l8), some (.int l9)] [] h (0, 0) Q := by
  unfold f_X10_rests_155 at hw
  obtain ⟨v1, ev1⟩ : ∃ z : Int32, z = l9 + (1 : Int32) := ⟨_, rfl⟩
  have hw := wp_bd hw v1 ev1
  refine G_iinc (v := v1) (lv' := [some (.ref l0), some (.int l1), some (.int l2), some (.int l3), some (.int l4), some (.int l5), some (.int l6), some (.int l7), some (.int l8), some (.int v1)]) dX10_rests_155 rfl (by rw [ev1]; rfl) (Nat.le_of_ble_eq_true rfl) rfl ?_
  refine G_goto (tgt := 91) dX10_rests_158 rfl ?_
  refine G.less [some (.ref l0), some (.int l1), some (.int l2), some (.int l3), some (.int l4), some (.int l5), some (.int l6), some (.int l7), some (.int l8), some (.int v1)] ⟨rfl, ⟨rfl, ⟨rfl, ⟨rfl, ⟨rfl, ⟨rfl, ⟨rfl, ⟨rfl, ⟨rfl, ⟨rfl, trivial⟩⟩⟩⟩⟩⟩⟩⟩⟩⟩ ?_
  exact hK_91 _ _ _ _ _ _ _ _ _ _ h Q hw
set_option maxHeartbeats 4000000 in
set_option maxRecDepth 100000 in
theorem f_X10_rests_91_bok {Γ : GX} (hs : SF Γ) (ht : TF Γ) {N : Nat} {K_74 : Nat → Int32 → Int32 → Int32 → Int32 → Int32 → Int32 → Int32 → Int32 → PH → Option (Option Int32 × PH)} {K_91 : Nat → Int32 → Int32 → Int32 → Int32 → Int32 → Int32 → Int32 → Int32 → Int32 → PH → Option (Option Int32 × PH)} (hK_74 : ∀ (l0 : Nat) (l1 : Int32) (l2 : Int32) (l3 : Int32) (l4 : Int32) (l5 : Int32) (l6 : Int32) (l7 : Int32) (l8 : Int32) (h : PH) (Q : Option Int32 → PH → Prop), wp (K_74 l0 l1 l2 l3 l4 l5 l6 l7 l8 h) Q → GT Γ yX10_rests cX10_rests 10 (some .int) (8, 1, 6) 74 [some (.ref l0), some (.int l1), some (.int l2), some (.int l3), some (.int l4), some (.int l5), some (.int l6), some (.int l7), some (.int l8), none] [] h (0, 0) Q) (hK_91 : ∀ (l0 : Nat) (l1 : Int32) (l2 : Int32) (l3 : Int32) (l4 : Int32) (l5 : Int32) (l6 : Int32) (l7 : Int32) (l8 : Int32) (l9 : Int32) (h : PH) (Q : Option Int32 → PH → Prop), wp (K_91 l0 l1 l2 l3 l4 l5 l6 l7 l8 l9 h) Q → GT Γ yX10_rests cX10_rests 10 (some .int) (8, 1, 6) 91 [some (.ref l0), some (.int l1), some (.int l2), some (.int l3), some (.int l4), some (.int l5), some (.int l6), some (.int l7), some (.int l8), some (.int l9)] [] h (0, 0) Q) (l0 : Nat) (l1 : Int32) (l2 : Int32) (l3 : Int32) (l4 : Int32) (l5 : Int32) (l6 : Int32) (l7 : Int32) (l8 : Int32) (l9 : Int32) (h : PH) (Q : Option Int32 → PH → Prop) (hw : wp (f_X10_rests_91_b N K_74 K_91 l0 l1 l2 l3 l4 l5 l6 l7 l8 l9 h) Q) : GT Γ yX10_rests cX10_rests 10 (some .int) (8, 1, 6) 91 [some (.ref l0), some (.int l1), some (.int l2), some (.int l3), some (.int l4), some (.int l5), some (.int l6), some (.int l7), some (.int l8), some (.int l9)] [] h (0, 0) Q := by
  unfold f_X10_rests_91_b at hw
  refine G_iload dX10_rests_91 rfl ?_
  refine G_aload_n dX10_rests_93 rfl ?_
  obtain ⟨c1, hw⟩ := wp_ck hw
  refine G_getR fl_X10_valley w_507 dX10_rests_94 c1 ?_
  obtain ⟨a2, ea2, hw⟩ := wp_rq hw
  refine G.sure ea2 ?_
  obtain ⟨c3, hw⟩ := wp_ck hw
  refine G_getNR fl_X6_many w_431 dX10_rests_97 c3 ?_
  obtain ⟨a4, ea4, hw⟩ := wp_rq hw
  refine G.sure ea4 ?_
  refine G_iconst (v := (0 : Int32)) dX10_rests_100 (by decide) ?_
  obtain ⟨c5, hw⟩ := wp_ck hw
  obtain ⟨c6, hw⟩ := wp_ck hw
  refine G_ialoadK (k := 0) dX10_rests_101 c5 (by decide) rfl c6 ?_
  have hw := wp_if hw
  refine G_icmp_gt (tgt := 161) dX10_rests_102 rfl (fun c7 => ?_) (fun c7 => ?_)
  · have hw := hw.1 c7
    obtain ⟨v8, ev8⟩ : ∃ z : Int32, z = l8 + (1 : Int32) := ⟨_, rfl⟩
    have hw := wp_bd hw v8 ev8
    refine G_iinc (v := v8) (lv' := [some (.ref l0), some (.int l1), some (.int l2), some (.int l3), some (.int l4), some (.int l5), some (.int l6), some (.int l7), some (.int v8), some (.int l9)]) dX10_rests_161 rfl (by rw [ev8]; rfl) (Nat.le_of_ble_eq_true rfl) rfl ?_
    refine G_goto (tgt := 74) dX10_rests_164 rfl ?_
    refine G.less [some (.ref l0), some (.int l1), some (.int l2), some (.int l3), some (.int l4), some (.int l5), some (.int l6), some (.int l7), some (.int v8), none] ⟨rfl, ⟨rfl, ⟨rfl, ⟨rfl, ⟨rfl, ⟨rfl, ⟨rfl, ⟨rfl, ⟨rfl, trivial⟩⟩⟩⟩⟩⟩⟩⟩⟩ ?_
    exact hK_74 _ _ _ _ _ _ _ _ _ h Q hw
  · have hw := hw.2 c7
    refine G_aload_n dX10_rests_105 rfl ?_
    refine G_iload_n dX10_rests_106 rfl ?_
    refine G_iload dX10_rests_107 rfl ?_
    refine G_iload dX10_rests_109 rfl ?_
    refine G_iload_n dX10_rests_111 rfl ?_
    refine G_iload dX10_rests_112 rfl ?_
    refine G_callV (As := [.int l1, .int l8, .int l9, .int l3, .int l5]) (s_X10_isContent hs l0 l1 l8 l9 l3 l5 h _ (wp_cl hw)) ca_X10_isContent w_1366 w_39 (ci := 9) rfl (by decide) w_1364 c1 (Nat.le_of_ble_eq_true rfl) (Nat.le_of_ble_eq_true rfl) rfl (Nat.le_of_ble_eq_true rfl) (Nat.le_of_ble_eq_true rfl) (Nat.le_of_ble_eq_true rfl) dX10_rests_114 rfl (fun v h10 hq => ?_)
    obtain ⟨r9, rfl, hw⟩ := hq
    refine G.cse (cs' := (0, 0)) rfl ?_
    show GZ _ _ _ _ _ _ _ 117 _ (.int r9 :: []) _ _
    have hw := wp_if hw
    refine G_if_eq (tgt := 155) dX10_rests_117 rfl (fun c11 => ?_) (fun c11 => ?_)
    · have hw := hw.1 c11
      refine G.less [some (.ref l0), some (.int l1), some (.int l2), some (.int l3), some (.int l4), some (.int l5), some (.int l6), some (.int l7), some (.int l8), some (.int l9)] ⟨rfl, ⟨rfl, ⟨rfl, ⟨rfl, ⟨rfl, ⟨rfl, ⟨rfl, ⟨rfl, ⟨rfl, ⟨rfl, trivial⟩⟩⟩⟩⟩⟩⟩⟩⟩⟩ ?_
      exact f_X10_rests_155_ok hs ht hK_74 hK_91 _ _ _ _ _ _ _ _ _ _ h10 Q hw
    · have hw := hw.2 c11
      refine G_aload_n dX10_rests_120 rfl ?_
      refine G_iload_n dX10_rests_121 rfl ?_
      refine G_iload dX10_rests_122 rfl ?_
      refine G_iload dX10_rests_124 rfl ?_
      refine G_iload dX10_rests_126 rfl ?_
      refine G_iload dX10_rests_128 rfl ?_
      obtain ⟨c14, hw⟩ := wp_ck hw
      refine G_callV (As := [.int l2, .int l9, .int l8, .int l4, .int l5]) (s_X10_isContent hs l0 l2 l9 l8 l4 l5 h10 _ (wp_cl hw)) ca_X10_isContent w_1366 w_39 (ci := 9) rfl (by decide) w_1364 c14 (Nat.le_of_ble_eq_true rfl) (Nat.le_of_ble_eq_true rfl) rfl (Nat.le_of_ble_eq_true rfl) (Nat.le_of_ble_eq_true rfl) (Nat.le_of_ble_eq_true rfl) dX10_rests_130 rfl (fun v h13 hq => ?_)
      obtain ⟨r12, rfl, hw⟩ := hq
      refine G.cse (cs' := (0, 0)) rfl ?_
      show GZ _ _ _ _ _ _ _ 133 _ (.int r12 :: []) _ _
      have hw := wp_if hw
      refine G_if_eq (tgt := 155) dX10_rests_133 rfl (fun c15 => ?_) (fun c15 => ?_)
      · have hw := hw.1 c15
        refine G.less [some (.ref l0), some (.int l1), some (.int l2), some (.int l3), some (.int l4), some (.int l5), some (.int l6), some (.int l7), some (.int l8), some (.int l9)] ⟨rfl, ⟨rfl, ⟨rfl, ⟨rfl, ⟨rfl, ⟨rfl, ⟨rfl, ⟨rfl, ⟨rfl, ⟨rfl, trivial⟩⟩⟩⟩⟩⟩⟩⟩⟩⟩ ?_
        exact f_X10_rests_155_ok hs ht hK_74 hK_91 _ _ _ _ _ _ _ _ _ _ h13 Q hw
      · have hw := hw.2 c15
        refine G_iload dX10_rests_136 rfl ?_
        refine G_iload dX10_rests_138 rfl ?_
        have hw := wp_if hw
        refine G_icmp_ne (tgt := 152) dX10_rests_140 rfl (fun c16 => ?_) (fun c16 => ?_)
        · have hw := hw.2 c16
          obtain ⟨v17, ev17⟩ : ∃ z : Int32, z = l7 + (1 : Int32) := ⟨_, rfl⟩
          have hw := wp_bd hw v17 ev17
          refine G_iinc (v := v17) (lv' := [some (.ref l0), some (.int l1), some (.int l2), some (.int l3), some (.int l4), some (.int l5), some (.int l6), some (.int v17), some (.int l8), some (.int l9)]) dX10_rests_152 rfl (by rw [ev17]; rfl) (Nat.le_of_ble_eq_true rfl) rfl ?_
          refine G.less [some (.ref l0), some (.int l1), some (.int l2), some (.int l3), some (.int l4), some (.int l5), some (.int l6), some (.int v17), some (.int l8), some (.int l9)] ⟨rfl, ⟨rfl, ⟨rfl, ⟨rfl, ⟨rfl, ⟨rfl, ⟨rfl, ⟨rfl, ⟨rfl, ⟨rfl, trivial⟩⟩⟩⟩⟩⟩⟩⟩⟩⟩ ?_
          exact f_X10_rests_155_ok hs ht hK_74 hK_91 _ _ _ _ _ _ _ _ _ _ h13 Q hw
        · have hw := hw.1 c16
          refine G_bipush (v := (10 : Int32)) dX10_rests_143 (by decide) ?_
          refine G_iload dX10_rests_145 rfl ?_
          refine G_imul dX10_rests_147 ?_
          refine G_iload dX10_rests_148 rfl ?_
          refine G_iadd dX10_rests_150 ?_
          exact GT_ireturn rfl dX10_rests_151 (wp_ret hw)
theorem f_X10_rests_91_ok {Γ : GX} (hs : SF Γ) (ht : TF Γ) {N : Nat} {K_74 : Nat → Int32 → Int32 → Int32 → Int32 → Int32 → Int32 → Int32 → Int32 → PH → Option (Option Int32 × PH)} (hK_74 : ∀ (l0 : Nat) (l1 : Int32) (l2 : Int32) (l3 : Int32) (l4 : Int32) (l5 : Int32) (l6 : Int32) (l7 : Int32) (l8 : Int32) (h : PH) (Q : Option Int32 → PH → Prop), wp (K_74 l0 l1 l2 l3 l4 l5 l6 l7 l8 h) Q → GT Γ yX10_rests cX10_rests 10 (some .int) (8, 1, 6) 74 [some (.ref l0), some (.int l1), some (.int l2), some (.int l3), some (.int l4), some (.int l5), some (.int l6), some (.int l7), some (.int l8), none] [] h (0, 0) Q) : ∀ (n : Nat) (l0 : Nat) (l1 : Int32) (l2 : Int32) (l3 : Int32) (l4 : Int32) (l5 : Int32) (l6 : Int32) (l7 : Int32) (l8 : Int32) (l9 : Int32) (h : PH) (Q : Option Int32 → PH → Prop), wp (f_X10_rests_91 N K_74 n l0 l1 l2 l3 l4 l5 l6 l7 l8 l9 h) Q → GT Γ yX10_rests cX10_rests 10 (some .int) (8, 1, 6) 91 [some (.ref l0), some (.int l1), some (.int l2), some (.int l3), some (.int l4), some (.int l5), some (.int l6), some (.int l7), some (.int l8), some (.int l9)] [] h (0, 0) Q
  | 0, _, _, _, _, _, _, _, _, _, _, _, Q, hw => (wp_no hw).elim
  | n + 1, l0, l1, l2, l3, l4, l5, l6, l7, l8, l9, h, Q, hw => f_X10_rests_91_bok (N := N) hs ht hK_74 (f_X10_rests_91_ok (N := N) hs ht hK_74 n) l0 l1 l2 l3 l4 l5 l6 l7 l8 l9 h Q hw
set_option maxHeartbeats 4000000 in
set_option maxRecDepth 100000 in
theorem f_X10_rests_74_bok {Γ : GX} (hs : SF Γ) (ht : TF Γ) {N : Nat} {K_74 : Nat → Int32 → Int32 → Int32 → Int32 → Int32 → Int32 → Int32 → Int32 → PH → Option (Option Int32 × PH)} (hK_74 : ∀ (l0 : Nat) (l1 : Int32) (l2 : Int32) (l3 : Int32) (l4 : Int32) (l5 : Int32) (l6 : Int32) (l7 : Int32) (l8 : Int32) (h : PH) (Q : Option Int32 → PH → Prop), wp (K_74 l0 l1 l2 l3 l4 l5 l6 l7 l8 h) Q → GT Γ yX10_rests cX10_rests 10 (some .int) (8, 1, 6) 74 [some (.ref l0), some (.int l1), some (.int l2), some (.int l3), some (.int l4), some (.int l5), some (.int l6), some (.int l7), some (.int l8), none] [] h (0, 0) Q) (l0 : Nat) (l1 : Int32) (l2 : Int32) (l3 : Int32) (l4 : Int32) (l5 : Int32) (l6 : Int32) (l7 : Int32) (l8 : Int32) (h : PH) (Q : Option Int32 → PH → Prop) (hw : wp (f_X10_rests_74_b N K_74 l0 l1 l2 l3 l4 l5 l6 l7 l8 h) Q) : GT Γ yX10_rests cX10_rests 10 (some .int) (8, 1, 6) 74 [some (.ref l0), some (.int l1), some (.int l2), some (.int l3), some (.int l4), some (.int l5), some (.int l6), some (.int l7), some (.int l8), none] [] h (0, 0) Q := by
  unfold f_X10_rests_74_b at hw
  refine G_iload dX10_rests_74 rfl ?_
  refine G_aload_n dX10_rests_76 rfl ?_
  obtain ⟨c1, hw⟩ := wp_ck hw
  refine G_getR fl_X10_valley w_507 dX10_rests_77 c1 ?_
  obtain ⟨a2, ea2, hw⟩ := wp_rq hw
  refine G.sure ea2 ?_
  obtain ⟨c3, hw⟩ := wp_ck hw
  refine G_getNR fl_X6_many w_431 dX10_rests_80 c3 ?_
  obtain ⟨a4, ea4, hw⟩ := wp_rq hw
  refine G.sure ea4 ?_
  refine G_iconst (v := (0 : Int32)) dX10_rests_83 (by decide) ?_
  obtain ⟨c5, hw⟩ := wp_ck hw
  obtain ⟨c6, hw⟩ := wp_ck hw
  refine G_ialoadK (k := 0) dX10_rests_84 c5 (by decide) rfl c6 ?_
  have hw := wp_if hw
  refine G_icmp_gt (tgt := 167) dX10_rests_85 rfl (fun c7 => ?_) (fun c7 => ?_)
  · have hw := hw.1 c7
    refine G_iload dX10_rests_167 rfl ?_
    refine G_iconst (v := (-1 : Int32)) dX10_rests_169 (by decide) ?_
    have hw := wp_if hw
    refine G_icmp_eq (tgt := 181) dX10_rests_170 rfl (fun c8 => ?_) (fun c8 => ?_)
    · have hw := hw.1 c8
      refine G_iload dX10_rests_181 rfl ?_
      exact GT_ireturn rfl dX10_rests_183 (wp_ret hw)
    · have hw := hw.2 c8
      exact GT_throw ht rfl dX10_rests_173 dX10_rests_176 dX10_rests_177 dX10_rests_180 (Nat.le_of_ble_eq_true rfl) (Nat.le_of_ble_eq_true rfl) (Nat.le_of_ble_eq_true rfl) (Nat.le_of_ble_eq_true rfl) (wp_ret hw)
  · have hw := hw.2 c7
    refine G_iconst (v := (0 : Int32)) dX10_rests_88 (by decide) ?_
    refine G_istore (lv' := [some (.ref l0), some (.int l1), some (.int l2), some (.int l3), some (.int l4), some (.int l5), some (.int l6), some (.int l7), some (.int l8), some (.int (0 : Int32))]) dX10_rests_89 (Nat.le_of_ble_eq_true rfl) rfl ?_
    refine G.less [some (.ref l0), some (.int l1), some (.int l2), some (.int l3), some (.int l4), some (.int l5), some (.int l6), some (.int l7), some (.int l8), some (.int (0 : Int32))] ⟨rfl, ⟨rfl, ⟨rfl, ⟨rfl, ⟨rfl, ⟨rfl, ⟨rfl, ⟨rfl, ⟨rfl, ⟨rfl, trivial⟩⟩⟩⟩⟩⟩⟩⟩⟩⟩ ?_
    exact f_X10_rests_91_ok hs ht hK_74 N _ _ _ _ _ _ _ _ _ _ h Q hw
theorem f_X10_rests_74_ok {Γ : GX} (hs : SF Γ) (ht : TF Γ) {N : Nat} : ∀ (n : Nat) (l0 : Nat) (l1 : Int32) (l2 : Int32) (l3 : Int32) (l4 : Int32) (l5 : Int32) (l6 : Int32) (l7 : Int32) (l8 : Int32) (h : PH) (Q : Option Int32 → PH → Prop), wp (f_X10_rests_74 N n l0 l1 l2 l3 l4 l5 l6 l7 l8 h) Q → GT Γ yX10_rests cX10_rests 10 (some .int) (8, 1, 6) 74 [some (.ref l0), some (.int l1), some (.int l2), some (.int l3), some (.int l4), some (.int l5), some (.int l6), some (.int l7), some (.int l8), none] [] h (0, 0) Q
  | 0, _, _, _, _, _, _, _, _, _, _, Q, hw => (wp_no hw).elim
  | n + 1, l0, l1, l2, l3, l4, l5, l6, l7, l8, h, Q, hw => f_X10_rests_74_bok (N := N) hs ht (f_X10_rests_74_ok (N := N) hs ht n) l0 l1 l2 l3 l4 l5 l6 l7 l8 h Q hw
set_option maxHeartbeats 4000000 in
set_option maxRecDepth 100000 in
theorem s_X10_rests {Γ : GX} (hs : SF Γ) (ht : TF Γ) {N : Nat} (l0 : Nat) (l1 : Int32) (l2 : Int32) (l3 : Int32) (l4 : Int32) (l5 : Int32) (l6 : Int32) (h : PH) (Q : Option Int32 → PH → Prop) (hw : wp (f_X10_rests N l0 l1 l2 l3 l4 l5 l6 h) Q) : SpecT Γ yX10_rests cX10_rests 10 (some .int) (8, 1, 6) [.ref l0, .int l1, .int l2, .int l3, .int l4, .int l5, .int l6] h Q := by
  refine SpecT.of (by decide) (Nat.le_of_ble_eq_true rfl) [some (.ref l0), some (.int l1), some (.int l2), some (.int l3), some (.int l4), some (.int l5), some (.int l6), none, none, none] rfl ?_
  unfold f_X10_rests at hw
  refine G_aload_n dX10_rests_0 rfl ?_
  refine G_iload_n dX10_rests_1 rfl ?_
  refine G_iload_n dX10_rests_2 rfl ?_
  obtain ⟨c3, hw⟩ := wp_ck hw
  refine G_callV (As := [.int l1, .int l2]) (s_X10_areNeighbours hs l0 l1 l2 h _ (wp_cl hw)) ca_X10_areNeighbours w_1301 w_37 (ci := 9) rfl (by decide) w_1299 c3 (Nat.le_of_ble_eq_true rfl) (Nat.le_of_ble_eq_true rfl) rfl (Nat.le_of_ble_eq_true rfl) (Nat.le_of_ble_eq_true rfl) (Nat.le_of_ble_eq_true rfl) dX10_rests_3 rfl (fun v h2 hq => ?_)
  obtain ⟨r1, rfl, hw⟩ := hq
  refine G.cse (cs' := (0, 0)) rfl ?_
  show GZ _ _ _ _ _ _ _ 6 _ (.int r1 :: []) _ _
  have hw := wp_if hw
  refine G_if_eq (tgt := 34) dX10_rests_6 rfl (fun c4 => ?_) (fun c4 => ?_)
  · have hw := hw.1 c4
    refine G.less [none, none, none, none, none, none, none, none, none, none] trivial ?_
    exact f_X10_rests_34_ok hs ht  h2 Q hw
  · have hw := hw.2 c4
    refine G_aload_n dX10_rests_9 rfl ?_
    obtain ⟨c5, hw⟩ := wp_ck hw
    refine G_getR fl_X10_valley w_507 dX10_rests_10 c5 ?_
    obtain ⟨a6, ea6, hw⟩ := wp_rq hw
    refine G.sure ea6 ?_
    refine G_iconst (v := (3 : Int32)) dX10_rests_13 (by decide) ?_
    refine G_iload_n dX10_rests_14 rfl ?_
    obtain ⟨c9, hw⟩ := wp_ck hw
    refine G_callV (As := [.int (3 : Int32), .int l3]) (s_X6_has hs a6 (3 : Int32) l3 h2 _ (wp_cl hw)) ca_X6_has w_955 w_956 (ci := 6) rfl (by decide) w_954 c9 (Nat.le_of_ble_eq_true rfl) (Nat.le_of_ble_eq_true rfl) rfl (Nat.le_of_ble_eq_true rfl) (Nat.le_of_ble_eq_true rfl) (Nat.le_of_ble_eq_true rfl) dX10_rests_15 rfl (fun v h8 hq => ?_)
    obtain ⟨r7, rfl, hw⟩ := hq
    refine G.cse (cs' := (0, 0)) rfl ?_
    show GZ _ _ _ _ _ _ _ 18 _ (.int r7 :: []) _ _
    have hw := wp_if hw
    refine G_if_eq (tgt := 34) dX10_rests_18 rfl (fun c10 => ?_) (fun c10 => ?_)
    · have hw := hw.1 c10
      refine G.less [none, none, none, none, none, none, none, none, none, none] trivial ?_
      exact f_X10_rests_34_ok hs ht  h8 Q hw
    · have hw := hw.2 c10
      refine G_aload_n dX10_rests_21 rfl ?_
      obtain ⟨c11, hw⟩ := wp_ck hw
      refine G_getR fl_X10_valley w_507 dX10_rests_22 c11 ?_
      obtain ⟨a12, ea12, hw⟩ := wp_rq hw
      refine G.sure ea12 ?_
      refine G_iconst (v := (3 : Int32)) dX10_rests_25 (by decide) ?_
      refine G_iload dX10_rests_26 rfl ?_
      obtain ⟨c15, hw⟩ := wp_ck hw
      refine G_callV (As := [.int (3 : Int32), .int l4]) (s_X6_has hs a12 (3 : Int32) l4 h8 _ (wp_cl hw)) ca_X6_has w_955 w_956 (ci := 6) rfl (by decide) w_954 c15 (Nat.le_of_ble_eq_true rfl) (Nat.le_of_ble_eq_true rfl) rfl (Nat.le_of_ble_eq_true rfl) (Nat.le_of_ble_eq_true rfl) (Nat.le_of_ble_eq_true rfl) dX10_rests_28 rfl (fun v h14 hq => ?_)
      obtain ⟨r13, rfl, hw⟩ := hq
      refine G.cse (cs' := (0, 0)) rfl ?_
      show GZ _ _ _ _ _ _ _ 31 _ (.int r13 :: []) _ _
      have hw := wp_if hw
      refine G_if_ne (tgt := 42) dX10_rests_31 rfl (fun c16 => ?_) (fun c16 => ?_)
      · have hw := hw.2 c16
        refine G_iload dX10_rests_42 rfl ?_
        have hw := wp_if hw
        refine G_if_lt (tgt := 60) dX10_rests_44 rfl (fun c17 => ?_) (fun c17 => ?_)
        · have hw := hw.1 c17
          refine G.less [none, none, none, none, none, none, none, none, none, none] trivial ?_
          exact f_X10_rests_60_ok hs ht  h14 Q hw
        · have hw := hw.2 c17
          refine G_iload dX10_rests_47 rfl ?_
          refine G_bipush (v := (99 : Int32)) dX10_rests_49 (by decide) ?_
          have hw := wp_if hw
          refine G_icmp_gt (tgt := 60) dX10_rests_51 rfl (fun c18 => ?_) (fun c18 => ?_)
          · have hw := hw.1 c18
            refine G.less [none, none, none, none, none, none, none, none, none, none] trivial ?_
            exact f_X10_rests_60_ok hs ht  h14 Q hw
          · have hw := hw.2 c18
            refine G_iload dX10_rests_54 rfl ?_
            refine G_iconst (v := (-1 : Int32)) dX10_rests_56 (by decide) ?_
            have hw := wp_if hw
            refine G_icmp_ge (tgt := 68) dX10_rests_57 rfl (fun c19 => ?_) (fun c19 => ?_)
            · have hw := hw.1 c19
              refine G_iconst (v := (0 : Int32)) dX10_rests_68 (by decide) ?_
              refine G_istore (lv' := [some (.ref l0), some (.int l1), some (.int l2), some (.int l3), some (.int l4), some (.int l5), some (.int l6), some (.int (0 : Int32)), none, none]) dX10_rests_69 (Nat.le_of_ble_eq_true rfl) rfl ?_
              refine G_iconst (v := (0 : Int32)) dX10_rests_71 (by decide) ?_
              refine G_istore (lv' := [some (.ref l0), some (.int l1), some (.int l2), some (.int l3), some (.int l4), some (.int l5), some (.int l6), some (.int (0 : Int32)), some (.int (0 : Int32)), none]) dX10_rests_72 (Nat.le_of_ble_eq_true rfl) rfl ?_
              refine G.less [some (.ref l0), some (.int l1), some (.int l2), some (.int l3), some (.int l4), some (.int l5), some (.int l6), some (.int (0 : Int32)), some (.int (0 : Int32)), none] ⟨rfl, ⟨rfl, ⟨rfl, ⟨rfl, ⟨rfl, ⟨rfl, ⟨rfl, ⟨rfl, ⟨rfl, trivial⟩⟩⟩⟩⟩⟩⟩⟩⟩ ?_
              exact f_X10_rests_74_ok hs ht N _ _ _ _ _ _ _ _ _ h14 Q hw
            · have hw := hw.2 c19
              refine G.less [none, none, none, none, none, none, none, none, none, none] trivial ?_
              exact f_X10_rests_60_ok hs ht  h14 Q hw
      · have hw := hw.1 c16
        refine G.less [none, none, none, none, none, none, none, none, none, none] trivial ?_
        exact f_X10_rests_34_ok hs ht  h14 Q hw
set_option maxHeartbeats 4000000 in
set_option maxRecDepth 100000 in
theorem f_X10_dreamBurns_89_ok {Γ : GX} (hs : SF Γ) {N : Nat} {K_23 : Nat → Int32 → Int64 → Int32 → PH → Option (Int64 × PH)} (hK_23 : ∀ (l0 : Nat) (l3 : Int32) (l4 : Int64) (l6 : Int32) (h : PH) (Q : Int64 → PH → Prop), wp (K_23 l0 l3 l4 l6 h) Q → G Γ yX10_dreamBurns cX10_dreamBurns 8 (some .long) (4, 0, 0) 23 [some (.ref l0), none, none, some (.int l3), some (.long l4), none, some (.int l6), none] [] h (0, 0) (q_l Q)) (l0 : Nat) (l3 : Int32) (l4 : Int64) (l6 : Int32) (h : PH) (Q : Int64 → PH → Prop) (hw : wp (f_X10_dreamBurns_89 N K_23 l0 l3 l4 l6 h) Q) : G Γ yX10_dreamBurns cX10_dreamBurns 8 (some .long) (4, 0, 0) 89 [some (.ref l0), none, none, some (.int l3), some (.long l4), none, some (.int l6), none] [] h (0, 0) (q_l Q) := by
  unfold f_X10_dreamBurns_89 at hw
  obtain ⟨v1, ev1⟩ : ∃ z : Int32, z = l6 + (1 : Int32) := ⟨_, rfl⟩
  have hw := wp_bd hw v1 ev1
  refine G_iinc (v := v1) (lv' := [some (.ref l0), none, none, some (.int l3), some (.long l4), none, some (.int v1), none]) dX10_dreamBurns_89 rfl (by rw [ev1]; rfl) (Nat.le_of_ble_eq_true rfl) rfl ?_
  refine G_goto (tgt := 23) dX10_dreamBurns_92 rfl ?_
  refine G.less [some (.ref l0), none, none, some (.int l3), some (.long l4), none, some (.int v1), none] ⟨rfl, ⟨rfl, ⟨rfl, ⟨rfl, trivial⟩⟩⟩⟩ ?_
  exact hK_23 _ _ _ _ h Q hw
set_option maxHeartbeats 4000000 in
set_option maxRecDepth 100000 in
theorem f_X10_dreamBurns_23_bok {Γ : GX} (hs : SF Γ) {N : Nat} {K_23 : Nat → Int32 → Int64 → Int32 → PH → Option (Int64 × PH)} (hK_23 : ∀ (l0 : Nat) (l3 : Int32) (l4 : Int64) (l6 : Int32) (h : PH) (Q : Int64 → PH → Prop), wp (K_23 l0 l3 l4 l6 h) Q → G Γ yX10_dreamBurns cX10_dreamBurns 8 (some .long) (4, 0, 0) 23 [some (.ref l0), none, none, some (.int l3), some (.long l4), none, some (.int l6), none] [] h (0, 0) (q_l Q)) (l0 : Nat) (l3 : Int32) (l4 : Int64) (l6 : Int32) (h : PH) (Q : Int64 → PH → Prop) (hw : wp (f_X10_dreamBurns_23_b N K_23 l0 l3 l4 l6 h) Q) : G Γ yX10_dreamBurns cX10_dreamBurns 8 (some .long) (4, 0, 0) 23 [some (.ref l0), none, none, some (.int l3), some (.long l4), none, some (.int l6), none] [] h (0, 0) (q_l Q) := by
  unfold f_X10_dreamBurns_23_b at hw
  refine G_iload dX10_dreamBurns_23 rfl ?_
  refine G_aload_n dX10_dreamBurns_25 rfl ?_
  obtain ⟨c1, hw⟩ := wp_ck hw
  refine G_getR fl_X10_valley w_507 dX10_dreamBurns_26 c1 ?_
  obtain ⟨a2, ea2, hw⟩ := wp_rq hw
  refine G.sure ea2 ?_
  obtain ⟨c3, hw⟩ := wp_ck hw
  refine G_getNR fl_X6_many w_431 dX10_dreamBurns_29 c3 ?_
  obtain ⟨a4, ea4, hw⟩ := wp_rq hw
  refine G.sure ea4 ?_
  refine G_iconst (v := (2 : Int32)) dX10_dreamBurns_32 (by decide) ?_
  obtain ⟨c5, hw⟩ := wp_ck hw
  obtain ⟨c6, hw⟩ := wp_ck hw
  refine G_ialoadK (k := 2) dX10_dreamBurns_33 c5 (by decide) rfl c6 ?_
  have hw := wp_if hw
  refine G_icmp_ge (tgt := 95) dX10_dreamBurns_34 rfl (fun c7 => ?_) (fun c7 => ?_)
  · have hw := hw.1 c7
    refine G_lload dX10_dreamBurns_95 rfl ?_
    exact G_lreturn rfl dX10_dreamBurns_97 ⟨_, rfl, wp_ret hw⟩
  · have hw := hw.2 c7
    refine G_lload dX10_dreamBurns_37 rfl ?_
    refine G_ldc2 (v := (1103515245 : Int64)) dX10_dreamBurns_39 w_1267 ?_
    refine G_lmul dX10_dreamBurns_42 ?_
    refine G_ldc2 (v := (12345 : Int64)) dX10_dreamBurns_43 w_1268 ?_
    refine G_ladd dX10_dreamBurns_46 ?_
    refine G_ldc2 (v := (2147483648 : Int64)) dX10_dreamBurns_47 w_1269 ?_
    refine G_lrem dX10_dreamBurns_50 (by decide) ?_
    refine G.topl fun v8 ev8 => ?_
    have hw := wp_bd hw v8 ev8
    refine G_lstore (lv' := [some (.ref l0), none, none, some (.int l3), some (.long v8), none, some (.int l6), none]) dX10_dreamBurns_51 (Nat.le_of_ble_eq_true rfl) rfl ?_
    refine G_lload dX10_dreamBurns_53 rfl ?_
    refine G_ldc2 (v := (65536 : Int64)) dX10_dreamBurns_55 w_1270 ?_
    refine G_ldiv dX10_dreamBurns_58 (by decide) ?_
    refine G_iload_n dX10_dreamBurns_59 rfl ?_
    refine G_iconst (v := (1 : Int32)) dX10_dreamBurns_60 (by decide) ?_
    refine G_iadd dX10_dreamBurns_61 ?_
    refine G_i2l dX10_dreamBurns_62 ?_
    obtain ⟨c9, hw⟩ := wp_ck hw
    refine G_lrem dX10_dreamBurns_63 c9 ?_
    refine G_l2i dX10_dreamBurns_64 ?_
    refine G.topi fun v10 ev10 => ?_
    have hw := wp_bd hw v10 ev10
    refine G_istore (lv' := [some (.ref l0), none, none, some (.int l3), some (.long v8), none, some (.int l6), some (.int v10)]) dX10_dreamBurns_65 (Nat.le_of_ble_eq_true rfl) rfl ?_
    refine G_iload dX10_dreamBurns_67 rfl ?_
    refine G_iload_n dX10_dreamBurns_69 rfl ?_
    have hw := wp_if hw
    refine G_icmp_ge (tgt := 89) dX10_dreamBurns_70 rfl (fun c11 => ?_) (fun c11 => ?_)
    · have hw := hw.1 c11
      refine G.less [some (.ref l0), none, none, some (.int l3), some (.long v8), none, some (.int l6), none] ⟨rfl, ⟨rfl, ⟨rfl, ⟨rfl, trivial⟩⟩⟩⟩ ?_
      exact f_X10_dreamBurns_89_ok hs hK_23 _ _ _ _ h Q hw
    · have hw := hw.2 c11
      refine G_aload_n dX10_dreamBurns_73 rfl ?_
      refine G_getR fl_X10_dream w_501 dX10_dreamBurns_74 c1 ?_
      obtain ⟨a12, ea12, hw⟩ := wp_rq hw
      refine G.sure ea12 ?_
      refine G_aload_n dX10_dreamBurns_77 rfl ?_
      refine G_getR fl_X10_valley w_507 dX10_dreamBurns_78 c1 ?_
      obtain ⟨a13, ea13, hw⟩ := wp_rq hw
      refine G.sure ea13 ?_
      refine G_iload dX10_dreamBurns_81 rfl ?_
      refine G_iload dX10_dreamBurns_83 rfl ?_
      obtain ⟨c16, hw⟩ := wp_ck hw
      refine G_callV (As := [.ref a13, .int l6, .int v10]) (s_X4_light hs a12 a13 l6 v10 h _ (wp_cl hw)) ca_X4_light w_1037 w_1038 (ci := 4) rfl (by decide) w_1036 c16 (Nat.le_of_ble_eq_true rfl) (Nat.le_of_ble_eq_true rfl) rfl (Nat.le_of_ble_eq_true rfl) (Nat.le_of_ble_eq_true rfl) (Nat.le_of_ble_eq_true rfl) dX10_dreamBurns_85 rfl (fun v h15 hq => ?_)
      obtain ⟨r14, rfl, hw⟩ := hq
      refine G.cse (cs' := (0, 0)) rfl ?_
      show GZ _ _ _ _ _ _ _ 88 _ (.int r14 :: []) _ _
      refine G_pop dX10_dreamBurns_88 rfl ?_
      refine G.less [some (.ref l0), none, none, some (.int l3), some (.long v8), none, some (.int l6), none] ⟨rfl, ⟨rfl, ⟨rfl, ⟨rfl, trivial⟩⟩⟩⟩ ?_
      exact f_X10_dreamBurns_89_ok hs hK_23 _ _ _ _ h15 Q hw
theorem f_X10_dreamBurns_23_ok {Γ : GX} (hs : SF Γ) {N : Nat} : ∀ (n : Nat) (l0 : Nat) (l3 : Int32) (l4 : Int64) (l6 : Int32) (h : PH) (Q : Int64 → PH → Prop), wp (f_X10_dreamBurns_23 N n l0 l3 l4 l6 h) Q → G Γ yX10_dreamBurns cX10_dreamBurns 8 (some .long) (4, 0, 0) 23 [some (.ref l0), none, none, some (.int l3), some (.long l4), none, some (.int l6), none] [] h (0, 0) (q_l Q)
  | 0, _, _, _, _, _, Q, hw => (wp_no hw).elim
  | n + 1, l0, l3, l4, l6, h, Q, hw => f_X10_dreamBurns_23_bok (N := N) hs (f_X10_dreamBurns_23_ok (N := N) hs n) l0 l3 l4 l6 h Q hw
set_option maxHeartbeats 4000000 in
set_option maxRecDepth 100000 in
theorem s_X10_dreamBurns {Γ : GX} (hs : SF Γ) {N : Nat} (l0 : Nat) (l1 : Int64) (h : PH) (Q : Int64 → PH → Prop) (hw : wp (f_X10_dreamBurns N l0 l1 h) Q) : Spec Γ yX10_dreamBurns cX10_dreamBurns 8 (some .long) (4, 0, 0) [.ref l0, .long l1] h (q_l Q) := by
  refine Spec.of (by decide) (Nat.le_of_ble_eq_true rfl) [some (.ref l0), some (.long l1), none, none, none, none, none, none] rfl ?_
  unfold f_X10_dreamBurns at hw
  refine G_aload_n dX10_dreamBurns_0 rfl ?_
  obtain ⟨c1, hw⟩ := wp_ck hw
  refine G_getR fl_X10_valley w_507 dX10_dreamBurns_1 c1 ?_
  obtain ⟨a2, ea2, hw⟩ := wp_rq hw
  refine G.sure ea2 ?_
  obtain ⟨c3, hw⟩ := wp_ck hw
  refine G_getNR fl_X6_many w_431 dX10_dreamBurns_4 c3 ?_
  obtain ⟨a4, ea4, hw⟩ := wp_rq hw
  refine G.sure ea4 ?_
  refine G_iconst (v := (0 : Int32)) dX10_dreamBurns_7 (by decide) ?_
  obtain ⟨c5, hw⟩ := wp_ck hw
  obtain ⟨c6, hw⟩ := wp_ck hw
  refine G_ialoadK (k := 0) dX10_dreamBurns_8 c5 (by decide) rfl c6 ?_
  refine G.topi fun v7 ev7 => ?_
  have hw := wp_bd hw v7 ev7
  refine G_istore_n (lv' := [some (.ref l0), some (.long l1), none, some (.int v7), none, none, none, none]) dX10_dreamBurns_9 (Nat.le_of_ble_eq_true rfl) rfl ?_
  refine G_iload_n dX10_dreamBurns_10 rfl ?_
  refine G_iconst (v := (1 : Int32)) dX10_dreamBurns_11 (by decide) ?_
  have hw := wp_if hw
  refine G_icmp_ge (tgt := 17) dX10_dreamBurns_12 rfl (fun c8 => ?_) (fun c8 => ?_)
  · have hw := hw.1 c8
    refine G_lload_n dX10_dreamBurns_17 rfl ?_
    refine G_lstore (lv' := [some (.ref l0), some (.long l1), none, some (.int v7), some (.long l1), none, none, none]) dX10_dreamBurns_18 (Nat.le_of_ble_eq_true rfl) rfl ?_
    refine G_iconst (v := (0 : Int32)) dX10_dreamBurns_20 (by decide) ?_
    refine G_istore (lv' := [some (.ref l0), some (.long l1), none, some (.int v7), some (.long l1), none, some (.int (0 : Int32)), none]) dX10_dreamBurns_21 (Nat.le_of_ble_eq_true rfl) rfl ?_
    refine G.less [some (.ref l0), none, none, some (.int v7), some (.long l1), none, some (.int (0 : Int32)), none] ⟨rfl, ⟨rfl, ⟨rfl, ⟨rfl, trivial⟩⟩⟩⟩ ?_
    exact f_X10_dreamBurns_23_ok hs N _ _ _ _ h Q hw
  · have hw := hw.2 c8
    refine G_lload_n dX10_dreamBurns_15 rfl ?_
    exact G_lreturn rfl dX10_dreamBurns_16 ⟨_, rfl, wp_ret hw⟩
set_option maxHeartbeats 4000000 in
set_option maxRecDepth 100000 in
theorem f_X4_stockOfAll_4_bok {Γ : GX} (hs : SF Γ) {N : Nat} {K_4 : Nat → Int32 → Int32 → PH → Option (Int32 × PH)} (hK_4 : ∀ (l0 : Nat) (l1 : Int32) (l2 : Int32) (h : PH) (Q : Int32 → PH → Prop), wp (K_4 l0 l1 l2 h) Q → G Γ yX4_stockOfAll cX4_stockOfAll 3 (some .int) (1, 0, 0) 4 [some (.ref l0), some (.int l1), some (.int l2)] [] h (0, 0) (q_i Q)) (l0 : Nat) (l1 : Int32) (l2 : Int32) (h : PH) (Q : Int32 → PH → Prop) (hw : wp (f_X4_stockOfAll_4_b N K_4 l0 l1 l2 h) Q) : G Γ yX4_stockOfAll cX4_stockOfAll 3 (some .int) (1, 0, 0) 4 [some (.ref l0), some (.int l1), some (.int l2)] [] h (0, 0) (q_i Q) := by
  unfold f_X4_stockOfAll_4_b at hw
  refine G_iload_n dX4_stockOfAll_4 rfl ?_
  refine G_aload_n dX4_stockOfAll_5 rfl ?_
  obtain ⟨c1, hw⟩ := wp_ck hw
  refine G_getR fl_X4_stock w_220 dX4_stockOfAll_6 c1 ?_
  obtain ⟨a2, ea2, hw⟩ := wp_rq hw
  refine G.sure ea2 ?_
  obtain ⟨c3, hw⟩ := wp_ck hw
  refine G_alen12 dX4_stockOfAll_9 c3 ?_
  have hw := wp_if hw
  refine G_icmp_ge (tgt := 28) dX4_stockOfAll_10 rfl (fun c4 => ?_) (fun c4 => ?_)
  · have hw := hw.1 c4
    refine G_iload_n dX4_stockOfAll_28 rfl ?_
    exact G_ireturn rfl dX4_stockOfAll_29 ⟨_, rfl, wp_ret hw⟩
  · have hw := hw.2 c4
    refine G_iload_n dX4_stockOfAll_13 rfl ?_
    refine G_aload_n dX4_stockOfAll_14 rfl ?_
    refine G_getR fl_X4_stock w_220 dX4_stockOfAll_15 c1 ?_
    obtain ⟨a5, ea5, hw⟩ := wp_rq hw
    refine G.sure ea5 ?_
    refine G_iload_n dX4_stockOfAll_18 rfl ?_
    obtain ⟨c6, hw⟩ := wp_ck hw
    obtain ⟨c7, hw⟩ := wp_ck hw
    refine G_iaload dX4_stockOfAll_19 c6 c7 ?_
    refine G_iadd dX4_stockOfAll_20 ?_
    refine G.topi fun v8 ev8 => ?_
    have hw := wp_bd hw v8 ev8
    refine G_istore_n (lv' := [some (.ref l0), some (.int v8), some (.int l2)]) dX4_stockOfAll_21 (Nat.le_of_ble_eq_true rfl) rfl ?_
    obtain ⟨v9, ev9⟩ : ∃ z : Int32, z = l2 + (1 : Int32) := ⟨_, rfl⟩
    have hw := wp_bd hw v9 ev9
    refine G_iinc (v := v9) (lv' := [some (.ref l0), some (.int v8), some (.int v9)]) dX4_stockOfAll_22 rfl (by rw [ev9]; rfl) (Nat.le_of_ble_eq_true rfl) rfl ?_
    refine G_goto (tgt := 4) dX4_stockOfAll_25 rfl ?_
    refine G.less [some (.ref l0), some (.int v8), some (.int v9)] ⟨rfl, ⟨rfl, ⟨rfl, trivial⟩⟩⟩ ?_
    exact hK_4 _ _ _ h Q hw
theorem f_X4_stockOfAll_4_ok {Γ : GX} (hs : SF Γ) {N : Nat} : ∀ (n : Nat) (l0 : Nat) (l1 : Int32) (l2 : Int32) (h : PH) (Q : Int32 → PH → Prop), wp (f_X4_stockOfAll_4 N n l0 l1 l2 h) Q → G Γ yX4_stockOfAll cX4_stockOfAll 3 (some .int) (1, 0, 0) 4 [some (.ref l0), some (.int l1), some (.int l2)] [] h (0, 0) (q_i Q)
  | 0, _, _, _, _, Q, hw => (wp_no hw).elim
  | n + 1, l0, l1, l2, h, Q, hw => f_X4_stockOfAll_4_bok (N := N) hs (f_X4_stockOfAll_4_ok (N := N) hs n) l0 l1 l2 h Q hw
set_option maxHeartbeats 4000000 in
set_option maxRecDepth 100000 in
theorem s_X4_stockOfAll {Γ : GX} (hs : SF Γ) {N : Nat} (l0 : Nat) (h : PH) (Q : Int32 → PH → Prop) (hw : wp (f_X4_stockOfAll N l0 h) Q) : Spec Γ yX4_stockOfAll cX4_stockOfAll 3 (some .int) (1, 0, 0) [.ref l0] h (q_i Q) := by
  refine Spec.of (by decide) (Nat.le_of_ble_eq_true rfl) [some (.ref l0), none, none] rfl ?_
  unfold f_X4_stockOfAll at hw
  refine G_iconst (v := (0 : Int32)) dX4_stockOfAll_0 (by decide) ?_
  refine G_istore_n (lv' := [some (.ref l0), some (.int (0 : Int32)), none]) dX4_stockOfAll_1 (Nat.le_of_ble_eq_true rfl) rfl ?_
  refine G_iconst (v := (0 : Int32)) dX4_stockOfAll_2 (by decide) ?_
  refine G_istore_n (lv' := [some (.ref l0), some (.int (0 : Int32)), some (.int (0 : Int32))]) dX4_stockOfAll_3 (Nat.le_of_ble_eq_true rfl) rfl ?_
  refine G.less [some (.ref l0), some (.int (0 : Int32)), some (.int (0 : Int32))] ⟨rfl, ⟨rfl, ⟨rfl, trivial⟩⟩⟩ ?_
  exact f_X4_stockOfAll_4_ok hs N _ _ _ h Q hw
set_option maxHeartbeats 4000000 in
set_option maxRecDepth 100000 in
theorem f_X10_years_57_bok {Γ : GX} (hs : SF Γ) {N : Nat} {K_57 : Nat → Int32 → Int32 → Int64 → Int32 → Int32 → PH → Option (Int32 × PH)} (hK_57 : ∀ (l0 : Nat) (l2 : Int32) (l3 : Int32) (l4 : Int64) (l6 : Int32) (l7 : Int32) (h : PH) (Q : Int32 → PH → Prop), wp (K_57 l0 l2 l3 l4 l6 l7 h) Q → G Γ yX10_years cX10_years 8 (some .int) (7, 0, 0) 57 [some (.ref l0), none, some (.int l2), some (.int l3), some (.long l4), none, some (.int l6), some (.int l7)] [] h (0, 0) (q_i Q)) (l0 : Nat) (l2 : Int32) (l3 : Int32) (l4 : Int64) (l6 : Int32) (l7 : Int32) (h : PH) (Q : Int32 → PH → Prop) (hw : wp (f_X10_years_57_b N K_57 l0 l2 l3 l4 l6 l7 h) Q) : G Γ yX10_years cX10_years 8 (some .int) (7, 0, 0) 57 [some (.ref l0), none, some (.int l2), some (.int l3), some (.long l4), none, some (.int l6), some (.int l7)] [] h (0, 0) (q_i Q) := by
  unfold f_X10_years_57_b at hw
  refine G_iload dX10_years_57 rfl ?_
  refine G_iload_n dX10_years_59 rfl ?_
  have hw := wp_if hw
  refine G_icmp_ge (tgt := 105) dX10_years_60 rfl (fun c1 => ?_) (fun c1 => ?_)
  · have hw := hw.1 c1
    refine G_iload_n dX10_years_105 rfl ?_
    have hw := wp_if hw
    refine G_if_ne (tgt := 112) dX10_years_106 rfl (fun c2 => ?_) (fun c2 => ?_)
    · have hw := hw.2 c2
      refine G_iload_n dX10_years_112 rfl ?_
      refine G_iconst (v := (1 : Int32)) dX10_years_113 (by decide) ?_
      have hw := wp_if hw
      refine G_icmp_ne (tgt := 138) dX10_years_114 rfl (fun c3 => ?_) (fun c3 => ?_)
      · have hw := hw.2 c3
        refine G_aload_n dX10_years_138 rfl ?_
        obtain ⟨c4, hw⟩ := wp_ck hw
        refine G_getR fl_X10_dream w_501 dX10_years_139 c4 ?_
        obtain ⟨a5, ea5, hw⟩ := wp_rq hw
        refine G.sure ea5 ?_
        obtain ⟨c8, hw⟩ := wp_ck hw
        refine G_callV (As := []) (s_X4_stockOfAll hs a5 h _ (wp_cl hw)) ca_X4_stockOfAll w_1272 w_1273 (ci := 4) rfl (by decide) w_1271 c8 (Nat.le_of_ble_eq_true rfl) (Nat.le_of_ble_eq_true rfl) rfl (Nat.le_of_ble_eq_true rfl) (Nat.le_of_ble_eq_true rfl) (Nat.le_of_ble_eq_true rfl) dX10_years_142 rfl (fun v h7 hq => ?_)
        obtain ⟨r6, rfl, hw⟩ := hq
        refine G.cse (cs' := (0, 0)) rfl ?_
        show GZ _ _ _ _ _ _ _ 145 _ (.int r6 :: []) _ _
        exact G_ireturn rfl dX10_years_145 ⟨_, rfl, wp_ret hw⟩
      · have hw := hw.1 c3
        refine G_aload_n dX10_years_117 rfl ?_
        obtain ⟨c9, hw⟩ := wp_ck hw
        refine G_getR fl_X10_dream w_501 dX10_years_118 c9 ?_
        obtain ⟨a10, ea10, hw⟩ := wp_rq hw
        refine G.sure ea10 ?_
        obtain ⟨c13, hw⟩ := wp_ck hw
        refine G_callV (As := []) (s_X4_sootOfAll hs a10 h _ (wp_cl hw)) ca_X4_sootOfAll w_1096 w_1097 (ci := 4) rfl (by decide) w_1095 c13 (Nat.le_of_ble_eq_true rfl) (Nat.le_of_ble_eq_true rfl) rfl (Nat.le_of_ble_eq_true rfl) (Nat.le_of_ble_eq_true rfl) (Nat.le_of_ble_eq_true rfl) dX10_years_121 rfl (fun v h12 hq => ?_)
        obtain ⟨r11, rfl, hw⟩ := hq
        refine G.cse (cs' := (0, 0)) rfl ?_
        show GZ _ _ _ _ _ _ _ 124 _ (.int r11 :: []) _ _
        refine G_aload_n dX10_years_124 rfl ?_
        obtain ⟨c14, hw⟩ := wp_ck hw
        refine G_getR fl_X10_now w_498 dX10_years_125 c14 ?_
        obtain ⟨a15, ea15, hw⟩ := wp_rq hw
        refine G.sure ea15 ?_
        obtain ⟨c16, hw⟩ := wp_ck hw
        refine G_getNR fl_X2_state w_257 dX10_years_128 c16 ?_
        obtain ⟨a17, ea17, hw⟩ := wp_rq hw
        refine G.sure ea17 ?_
        obtain ⟨c20, hw⟩ := wp_ck hw
        refine G_callV (As := []) (s_X4_sootOfAll hs a17 h12 _ (wp_cl hw)) ca_X4_sootOfAll w_1096 w_1097 (ci := 4) rfl (by decide) w_1095 c20 (Nat.le_of_ble_eq_true rfl) (Nat.le_of_ble_eq_true rfl) rfl (Nat.le_of_ble_eq_true rfl) (Nat.le_of_ble_eq_true rfl) (Nat.le_of_ble_eq_true rfl) dX10_years_131 rfl (fun v h19 hq => ?_)
        obtain ⟨r18, rfl, hw⟩ := hq
        refine G.cse (cs' := (0, 0)) rfl ?_
        show GZ _ _ _ _ _ _ _ 134 _ (.int r18 :: [.int r11]) _ _
        refine G_isub dX10_years_134 ?_
        refine G_goto (tgt := 145) dX10_years_135 rfl ?_
        exact G_ireturn rfl dX10_years_145 ⟨_, rfl, wp_ret hw⟩
    · have hw := hw.1 c2
      refine G_iload dX10_years_109 rfl ?_
      exact G_ireturn rfl dX10_years_111 ⟨_, rfl, wp_ret hw⟩
  · have hw := hw.2 c1
    refine G_aload_n dX10_years_63 rfl ?_
    refine G_lload dX10_years_64 rfl ?_
    obtain ⟨c23, hw⟩ := wp_ck hw
    refine G_callV (As := [.long l4]) (s_X10_dreamBurns hs l0 l4 h _ (wp_cl hw)) ca_X10_dreamBurns w_1265 w_36 (ci := 9) rfl (by decide) w_1263 c23 (Nat.le_of_ble_eq_true rfl) (Nat.le_of_ble_eq_true rfl) rfl (Nat.le_of_ble_eq_true rfl) (Nat.le_of_ble_eq_true rfl) (Nat.le_of_ble_eq_true rfl) dX10_years_66 rfl (fun v h22 hq => ?_)
    obtain ⟨r21, rfl, hw⟩ := hq
    refine G.cse (cs' := (0, 0)) rfl ?_
    show GZ _ _ _ _ _ _ _ 69 _ (.long r21 :: []) _ _
    refine G_lstore (lv' := [some (.ref l0), none, some (.int l2), some (.int l3), some (.long r21), none, some (.int l6), some (.int l7)]) dX10_years_69 (Nat.le_of_ble_eq_true rfl) rfl ?_
    refine G_iload dX10_years_71 rfl ?_
    refine G_aload_n dX10_years_73 rfl ?_
    obtain ⟨c24, hw⟩ := wp_ck hw
    refine G_getR fl_X10_dream w_501 dX10_years_74 c24 ?_
    obtain ⟨a25, ea25, hw⟩ := wp_rq hw
    refine G.sure ea25 ?_
    refine G_aload_n dX10_years_77 rfl ?_
    refine G_getR fl_X10_valley w_507 dX10_years_78 c24 ?_
    obtain ⟨a26, ea26, hw⟩ := wp_rq hw
    refine G.sure ea26 ?_
    obtain ⟨c29, hw⟩ := wp_ck hw
    refine G_callV (As := [.ref a26]) (s_X4_signsRead hs a25 a26 h22 _ (wp_cl hw)) ca_X4_signsRead w_1084 w_1085 (ci := 4) rfl (by decide) w_1083 c29 (Nat.le_of_ble_eq_true rfl) (Nat.le_of_ble_eq_true rfl) rfl (Nat.le_of_ble_eq_true rfl) (Nat.le_of_ble_eq_true rfl) (Nat.le_of_ble_eq_true rfl) dX10_years_81 rfl (fun v h28 hq => ?_)
    obtain ⟨r27, rfl, hw⟩ := hq
    refine G.cse (cs' := (0, 0)) rfl ?_
    show GZ _ _ _ _ _ _ _ 84 _ (.int r27 :: [.int l6]) _ _
    refine G_iadd dX10_years_84 ?_
    refine G.topi fun v30 ev30 => ?_
    have hw := wp_bd hw v30 ev30
    refine G_istore (lv' := [some (.ref l0), none, some (.int l2), some (.int l3), some (.long r21), none, some (.int v30), some (.int l7)]) dX10_years_85 (Nat.le_of_ble_eq_true rfl) rfl ?_
    refine G_aload_n dX10_years_87 rfl ?_
    obtain ⟨c31, hw⟩ := wp_ck hw
    refine G_getR fl_X10_dream w_501 dX10_years_88 c31 ?_
    obtain ⟨a32, ea32, hw⟩ := wp_rq hw
    refine G.sure ea32 ?_
    refine G_aload_n dX10_years_91 rfl ?_
    refine G_getR fl_X10_valley w_507 dX10_years_92 c31 ?_
    obtain ⟨a33, ea33, hw⟩ := wp_rq hw
    refine G.sure ea33 ?_
    obtain ⟨c36, hw⟩ := wp_ck hw
    refine G_callV (As := [.ref a33]) (s_X4_pass hs a32 a33 h28 _ (wp_cl hw)) ca_X4_pass w_1059 w_1060 (ci := 4) rfl (by decide) w_1058 c36 (Nat.le_of_ble_eq_true rfl) (Nat.le_of_ble_eq_true rfl) rfl (Nat.le_of_ble_eq_true rfl) (Nat.le_of_ble_eq_true rfl) (Nat.le_of_ble_eq_true rfl) dX10_years_95 rfl (fun v h35 hq => ?_)
    obtain ⟨r34, rfl, hw⟩ := hq
    refine G.cse (cs' := (0, 0)) rfl ?_
    show GZ _ _ _ _ _ _ _ 98 _ (.int r34 :: []) _ _
    refine G_pop dX10_years_98 rfl ?_
    obtain ⟨v37, ev37⟩ : ∃ z : Int32, z = l7 + (1 : Int32) := ⟨_, rfl⟩
    have hw := wp_bd hw v37 ev37
    refine G_iinc (v := v37) (lv' := [some (.ref l0), none, some (.int l2), some (.int l3), some (.long r21), none, some (.int v30), some (.int v37)]) dX10_years_99 rfl (by rw [ev37]; rfl) (Nat.le_of_ble_eq_true rfl) rfl ?_
    refine G_goto (tgt := 57) dX10_years_102 rfl ?_
    refine G.less [some (.ref l0), none, some (.int l2), some (.int l3), some (.long r21), none, some (.int v30), some (.int v37)] ⟨rfl, ⟨rfl, ⟨rfl, ⟨rfl, ⟨rfl, ⟨rfl, trivial⟩⟩⟩⟩⟩⟩ ?_
    exact hK_57 _ _ _ _ _ _ h35 Q hw
theorem f_X10_years_57_ok {Γ : GX} (hs : SF Γ) {N : Nat} : ∀ (n : Nat) (l0 : Nat) (l2 : Int32) (l3 : Int32) (l4 : Int64) (l6 : Int32) (l7 : Int32) (h : PH) (Q : Int32 → PH → Prop), wp (f_X10_years_57 N n l0 l2 l3 l4 l6 l7 h) Q → G Γ yX10_years cX10_years 8 (some .int) (7, 0, 0) 57 [some (.ref l0), none, some (.int l2), some (.int l3), some (.long l4), none, some (.int l6), some (.int l7)] [] h (0, 0) (q_i Q)
  | 0, _, _, _, _, _, _, _, Q, hw => (wp_no hw).elim
  | n + 1, l0, l2, l3, l4, l6, l7, h, Q, hw => f_X10_years_57_bok (N := N) hs (f_X10_years_57_ok (N := N) hs n) l0 l2 l3 l4 l6 l7 h Q hw
set_option maxHeartbeats 4000000 in
set_option maxRecDepth 100000 in
theorem s_X10_years {Γ : GX} (hs : SF Γ) {N : Nat} (l0 : Nat) (l1 : Int32) (l2 : Int32) (l3 : Int32) (h : PH) (Q : Int32 → PH → Prop) (hw : wp (f_X10_years N l0 l1 l2 l3 h) Q) : Spec Γ yX10_years cX10_years 8 (some .int) (7, 0, 0) [.ref l0, .int l1, .int l2, .int l3] h (q_i Q) := by
  refine Spec.of (by decide) (Nat.le_of_ble_eq_true rfl) [some (.ref l0), some (.int l1), some (.int l2), some (.int l3), none, none, none, none] rfl ?_
  unfold f_X10_years at hw
  refine G_iload_n dX10_years_0 rfl ?_
  have hw := wp_if hw
  refine G_if_lt (tgt := 31) dX10_years_1 rfl (fun c1 => ?_) (fun c1 => ?_)
  · have hw := hw.1 c1
    refine G_iconst (v := (-1 : Int32)) dX10_years_31 (by decide) ?_
    exact G_ireturn rfl dX10_years_32 ⟨_, rfl, wp_ret hw⟩
  · have hw := hw.2 c1
    refine G_iload_n dX10_years_4 rfl ?_
    refine G_sipush (v := (9999 : Int32)) dX10_years_5 (by decide) ?_
    have hw := wp_if hw
    refine G_icmp_gt (tgt := 31) dX10_years_8 rfl (fun c2 => ?_) (fun c2 => ?_)
    · have hw := hw.1 c2
      refine G_iconst (v := (-1 : Int32)) dX10_years_31 (by decide) ?_
      exact G_ireturn rfl dX10_years_32 ⟨_, rfl, wp_ret hw⟩
    · have hw := hw.2 c2
      refine G_iload_n dX10_years_11 rfl ?_
      refine G_iconst (v := (1 : Int32)) dX10_years_12 (by decide) ?_
      have hw := wp_if hw
      refine G_icmp_lt (tgt := 31) dX10_years_13 rfl (fun c3 => ?_) (fun c3 => ?_)
      · have hw := hw.1 c3
        refine G_iconst (v := (-1 : Int32)) dX10_years_31 (by decide) ?_
        exact G_ireturn rfl dX10_years_32 ⟨_, rfl, wp_ret hw⟩
      · have hw := hw.2 c3
        refine G_iload_n dX10_years_16 rfl ?_
        refine G_bipush (v := (99 : Int32)) dX10_years_17 (by decide) ?_
        have hw := wp_if hw
        refine G_icmp_gt (tgt := 31) dX10_years_19 rfl (fun c4 => ?_) (fun c4 => ?_)
        · have hw := hw.1 c4
          refine G_iconst (v := (-1 : Int32)) dX10_years_31 (by decide) ?_
          exact G_ireturn rfl dX10_years_32 ⟨_, rfl, wp_ret hw⟩
        · have hw := hw.2 c4
          refine G_iload_n dX10_years_22 rfl ?_
          have hw := wp_if hw
          refine G_if_lt (tgt := 31) dX10_years_23 rfl (fun c5 => ?_) (fun c5 => ?_)
          · have hw := hw.1 c5
            refine G_iconst (v := (-1 : Int32)) dX10_years_31 (by decide) ?_
            exact G_ireturn rfl dX10_years_32 ⟨_, rfl, wp_ret hw⟩
          · have hw := hw.2 c5
            refine G_iload_n dX10_years_26 rfl ?_
            refine G_iconst (v := (2 : Int32)) dX10_years_27 (by decide) ?_
            have hw := wp_if hw
            refine G_icmp_le (tgt := 33) dX10_years_28 rfl (fun c6 => ?_) (fun c6 => ?_)
            · have hw := hw.1 c6
              refine G_aload_n dX10_years_33 rfl ?_
              obtain ⟨c7, hw⟩ := wp_ck hw
              refine G_getR fl_X10_dream w_501 dX10_years_34 c7 ?_
              obtain ⟨a8, ea8, hw⟩ := wp_rq hw
              refine G.sure ea8 ?_
              refine G_aload_n dX10_years_37 rfl ?_
              refine G_getR fl_X10_now w_498 dX10_years_38 c7 ?_
              obtain ⟨a9, ea9, hw⟩ := wp_rq hw
              refine G.sure ea9 ?_
              obtain ⟨c10, hw⟩ := wp_ck hw
              refine G_getNR fl_X2_state w_257 dX10_years_41 c10 ?_
              obtain ⟨a11, ea11, hw⟩ := wp_rq hw
              refine G.sure ea11 ?_
              obtain ⟨c14, hw⟩ := wp_ck hw
              refine G_callV (As := [.ref a11]) (s_X4_copy hs a8 a11 h _ (wp_cl hw)) ca_X4_copy w_1033 w_1034 (ci := 4) rfl (by decide) w_1032 c14 (Nat.le_of_ble_eq_true rfl) (Nat.le_of_ble_eq_true rfl) rfl (Nat.le_of_ble_eq_true rfl) (Nat.le_of_ble_eq_true rfl) (Nat.le_of_ble_eq_true rfl) dX10_years_44 rfl (fun v h13 hq => ?_)
              obtain ⟨rfl, hw⟩ := hq
              refine G.cse (cs' := (0, 0)) rfl ?_
              show GZ _ _ _ _ _ _ _ 47 _ [] _ _
              refine G_iload_n dX10_years_47 rfl ?_
              refine G_i2l dX10_years_48 ?_
              refine G.topl fun v15 ev15 => ?_
              have hw := wp_bd hw v15 ev15
              refine G_lstore (lv' := [some (.ref l0), some (.int l1), some (.int l2), some (.int l3), some (.long v15), none, none, none]) dX10_years_49 (Nat.le_of_ble_eq_true rfl) rfl ?_
              refine G_iconst (v := (0 : Int32)) dX10_years_51 (by decide) ?_
              refine G_istore (lv' := [some (.ref l0), some (.int l1), some (.int l2), some (.int l3), some (.long v15), none, some (.int (0 : Int32)), none]) dX10_years_52 (Nat.le_of_ble_eq_true rfl) rfl ?_
              refine G_iconst (v := (0 : Int32)) dX10_years_54 (by decide) ?_
              refine G_istore (lv' := [some (.ref l0), some (.int l1), some (.int l2), some (.int l3), some (.long v15), none, some (.int (0 : Int32)), some (.int (0 : Int32))]) dX10_years_55 (Nat.le_of_ble_eq_true rfl) rfl ?_
              refine G.less [some (.ref l0), none, some (.int l2), some (.int l3), some (.long v15), none, some (.int (0 : Int32)), some (.int (0 : Int32))] ⟨rfl, ⟨rfl, ⟨rfl, ⟨rfl, ⟨rfl, ⟨rfl, trivial⟩⟩⟩⟩⟩⟩ ?_
              exact f_X10_years_57_ok hs N _ _ _ _ _ _ h13 Q hw
            · have hw := hw.2 c6
              refine G_iconst (v := (-1 : Int32)) dX10_years_31 (by decide) ?_
              exact G_ireturn rfl dX10_years_32 ⟨_, rfl, wp_ret hw⟩
set_option maxHeartbeats 4000000 in
set_option maxRecDepth 100000 in
theorem s_X2_copy {Γ : GX} (hs : SF Γ) {N : Nat} (l0 : Nat) (l1 : Nat) (h : PH) (Q : Unit → PH → Prop) (hw : wp (f_X2_copy N l0 l1 h) Q) : Spec Γ yX2_copy cX2_copy 2 none (3, 0, 0) [.ref l0, .ref l1] h (q_u Q) := by
  refine Spec.of (by decide) (Nat.le_of_ble_eq_true rfl) [some (.ref l0), some (.ref l1)] rfl ?_
  unfold f_X2_copy at hw
  refine G_aload_n dX2_copy_0 rfl ?_
  obtain ⟨c1, hw⟩ := wp_ck hw
  refine G_getR fl_X2_state w_255 dX2_copy_1 c1 ?_
  obtain ⟨a2, ea2, hw⟩ := wp_rq hw
  refine G.sure ea2 ?_
  refine G_aload_n dX2_copy_4 rfl ?_
  obtain ⟨c3, hw⟩ := wp_ck hw
  refine G_getR fl_X2_state w_255 dX2_copy_5 c3 ?_
  obtain ⟨a4, ea4, hw⟩ := wp_rq hw
  refine G.sure ea4 ?_
  obtain ⟨c7, hw⟩ := wp_ck hw
  refine G_callV (As := [.ref a4]) (s_X4_copy hs a2 a4 h _ (wp_cl hw)) ca_X4_copy w_1033 w_1034 (ci := 4) rfl (by decide) w_1283 c7 (Nat.le_of_ble_eq_true rfl) (Nat.le_of_ble_eq_true rfl) rfl (Nat.le_of_ble_eq_true rfl) (Nat.le_of_ble_eq_true rfl) (Nat.le_of_ble_eq_true rfl) dX2_copy_8 rfl (fun v h6 hq => ?_)
  obtain ⟨rfl, hw⟩ := hq
  refine G.cse (cs' := (0, 0)) rfl ?_
  show GZ _ _ _ _ _ _ _ 11 _ [] _ _
  refine G_aload_n dX2_copy_11 rfl ?_
  obtain ⟨c8, hw⟩ := wp_ck hw
  refine G_getR fl_X2_day w_258 dX2_copy_12 c8 ?_
  obtain ⟨a9, ea9, hw⟩ := wp_rq hw
  refine G.sure ea9 ?_
  refine G_aload_n dX2_copy_15 rfl ?_
  obtain ⟨c10, hw⟩ := wp_ck hw
  refine G_getR fl_X2_day w_258 dX2_copy_16 c10 ?_
  obtain ⟨a11, ea11, hw⟩ := wp_rq hw
  refine G.sure ea11 ?_
  obtain ⟨c14, hw⟩ := wp_ck hw
  refine G_callV (As := [.ref a11]) (s_X0_copy hs a9 a11 h6 _ (wp_cl hw)) ca_X0_copy w_946 w_947 (ci := 0) rfl (by decide) w_1284 c14 (Nat.le_of_ble_eq_true rfl) (Nat.le_of_ble_eq_true rfl) rfl (Nat.le_of_ble_eq_true rfl) (Nat.le_of_ble_eq_true rfl) (Nat.le_of_ble_eq_true rfl) dX2_copy_19 rfl (fun v h13 hq => ?_)
  obtain ⟨rfl, hw⟩ := hq
  refine G.cse (cs' := (0, 0)) rfl ?_
  show GZ _ _ _ _ _ _ _ 22 _ [] _ _
  refine G_aload_n dX2_copy_22 rfl ?_
  refine G_aload_n dX2_copy_23 rfl ?_
  obtain ⟨c15, hw⟩ := wp_ck hw
  refine G_getI fl_X2_reads w_263 dX2_copy_24 c15 ?_
  obtain ⟨c16, hw⟩ := wp_ck hw
  refine G_putI fl_X2_reads w_263 dX2_copy_27 c16 ?_
  refine G.nmh fun h17 eh17 => ?_
  have hw := wp_bd hw h17 eh17
  refine G_aload_n dX2_copy_30 rfl ?_
  obtain ⟨c18, hw⟩ := wp_ck hw
  refine G_getR fl_X2_readWatcher w_260 dX2_copy_31 c18 ?_
  obtain ⟨a19, ea19, hw⟩ := wp_rq hw
  refine G.sure ea19 ?_
  refine G_iconst (v := (0 : Int32)) dX2_copy_34 (by decide) ?_
  refine G_aload_n dX2_copy_35 rfl ?_
  obtain ⟨c20, hw⟩ := wp_ck hw
  refine G_getR fl_X2_readWatcher w_260 dX2_copy_36 c20 ?_
  obtain ⟨a21, ea21, hw⟩ := wp_rq hw
  refine G.sure ea21 ?_
  refine G_iconst (v := (0 : Int32)) dX2_copy_39 (by decide) ?_
  refine G_bipush (v := (8 : Int32)) dX2_copy_40 (by decide) ?_
  obtain ⟨c22, hw⟩ := wp_ck hw
  obtain ⟨c23, hw⟩ := wp_ck hw
  obtain ⟨c24, hw⟩ := wp_ck hw
  obtain ⟨c25, hw⟩ := wp_ck hw
  refine G_acopy w_1285 w_909 w_908 w_148 c22 c23 (by decide) (by decide) (by decide) c24 c25 dX2_copy_42 (Nat.le_of_ble_eq_true rfl) (Nat.le_of_ble_eq_true rfl) ?_
  refine G.nmh fun h26 eh26 => ?_
  have hw := wp_bd hw h26 eh26
  refine G_aload_n dX2_copy_45 rfl ?_
  obtain ⟨c27, hw⟩ := wp_ck hw
  refine G_getR fl_X2_readFlue w_261 dX2_copy_46 c27 ?_
  obtain ⟨a28, ea28, hw⟩ := wp_rq hw
  refine G.sure ea28 ?_
  refine G_iconst (v := (0 : Int32)) dX2_copy_49 (by decide) ?_
  refine G_aload_n dX2_copy_50 rfl ?_
  obtain ⟨c29, hw⟩ := wp_ck hw
  refine G_getR fl_X2_readFlue w_261 dX2_copy_51 c29 ?_
  obtain ⟨a30, ea30, hw⟩ := wp_rq hw
  refine G.sure ea30 ?_
  refine G_iconst (v := (0 : Int32)) dX2_copy_54 (by decide) ?_
  refine G_bipush (v := (8 : Int32)) dX2_copy_55 (by decide) ?_
  obtain ⟨c31, hw⟩ := wp_ck hw
  obtain ⟨c32, hw⟩ := wp_ck hw
  obtain ⟨c33, hw⟩ := wp_ck hw
  obtain ⟨c34, hw⟩ := wp_ck hw
  refine G_acopy w_1285 w_909 w_908 w_148 c31 c32 (by decide) (by decide) (by decide) c33 c34 dX2_copy_57 (Nat.le_of_ble_eq_true rfl) (Nat.le_of_ble_eq_true rfl) ?_
  refine G.nmh fun h35 eh35 => ?_
  have hw := wp_bd hw h35 eh35
  refine G_aload_n dX2_copy_60 rfl ?_
  obtain ⟨c36, hw⟩ := wp_ck hw
  refine G_getR fl_X2_readSign w_262 dX2_copy_61 c36 ?_
  obtain ⟨a37, ea37, hw⟩ := wp_rq hw
  refine G.sure ea37 ?_
  refine G_iconst (v := (0 : Int32)) dX2_copy_64 (by decide) ?_
  refine G_aload_n dX2_copy_65 rfl ?_
  obtain ⟨c38, hw⟩ := wp_ck hw
  refine G_getR fl_X2_readSign w_262 dX2_copy_66 c38 ?_
  obtain ⟨a39, ea39, hw⟩ := wp_rq hw
  refine G.sure ea39 ?_
  refine G_iconst (v := (0 : Int32)) dX2_copy_69 (by decide) ?_
  refine G_bipush (v := (8 : Int32)) dX2_copy_70 (by decide) ?_
  obtain ⟨c40, hw⟩ := wp_ck hw
  obtain ⟨c41, hw⟩ := wp_ck hw
  obtain ⟨c42, hw⟩ := wp_ck hw
  obtain ⟨c43, hw⟩ := wp_ck hw
  refine G_acopy w_1285 w_909 w_908 w_148 c40 c41 (by decide) (by decide) (by decide) c42 c43 dX2_copy_72 (Nat.le_of_ble_eq_true rfl) (Nat.le_of_ble_eq_true rfl) ?_
  refine G.nmh fun h44 eh44 => ?_
  have hw := wp_bd hw h44 eh44
  exact G_vreturn rfl dX2_copy_75 ⟨rfl, wp_ret hw⟩
set_option maxHeartbeats 4000000 in
set_option maxRecDepth 100000 in
theorem f_X10_mark_26_ok {Γ : GX} (hs : SF Γ) {N : Nat} (l0 : Nat) (l1 : Int32) (l2 : Int32) (h : PH) (Q : Int32 → PH → Prop) (hw : wp (f_X10_mark_26 N l0 l1 l2 h) Q) : G Γ yX10_mark cX10_mark 3 (some .boolean) (4, 0, 0) 26 [some (.ref l0), some (.int l1), some (.int l2)] [] h (0, 0) (q_i Q) := by
  unfold f_X10_mark_26 at hw
  refine G_iload_n dX10_mark_26 rfl ?_
  have hw := wp_if hw
  refine G_if_eq (tgt := 51) dX10_mark_27 rfl (fun c1 => ?_) (fun c1 => ?_)
  · have hw := hw.1 c1
    refine G_aload_n dX10_mark_51 rfl ?_
    obtain ⟨c2, hw⟩ := wp_ck hw
    refine G_getR fl_X10_marks w_499 dX10_mark_52 c2 ?_
    obtain ⟨a3, ea3, hw⟩ := wp_rq hw
    refine G.sure ea3 ?_
    refine G_iload_n dX10_mark_55 rfl ?_
    obtain ⟨c4, hw⟩ := wp_ck hw
    obtain ⟨c5, hw⟩ := wp_ck hw
    refine G_aaload15 dX10_mark_56 c4 c5 ?_
    obtain ⟨a6, ea6, hw⟩ := wp_rq hw
    refine G.sure ea6 ?_
    refine G_aload_n dX10_mark_57 rfl ?_
    refine G_getR fl_X10_now w_498 dX10_mark_58 c2 ?_
    obtain ⟨a7, ea7, hw⟩ := wp_rq hw
    refine G.sure ea7 ?_
    obtain ⟨c10, hw⟩ := wp_ck hw
    refine G_callV (As := [.ref a7]) (s_X2_copy hs a6 a7 h _ (wp_cl hw)) ca_X2_copy w_1280 w_1281 (ci := 2) rfl (by decide) w_1279 c10 (Nat.le_of_ble_eq_true rfl) (Nat.le_of_ble_eq_true rfl) rfl (Nat.le_of_ble_eq_true rfl) (Nat.le_of_ble_eq_true rfl) (Nat.le_of_ble_eq_true rfl) dX10_mark_61 rfl (fun v h9 hq => ?_)
    obtain ⟨rfl, hw⟩ := hq
    refine G.cse (cs' := (0, 0)) rfl ?_
    show GZ _ _ _ _ _ _ _ 64 _ [] _ _
    refine G_aload_n dX10_mark_64 rfl ?_
    refine G_dup dX10_mark_65 rfl ?_
    obtain ⟨c11, hw⟩ := wp_ck hw
    refine G_getI fl_X10_laid w_509 dX10_mark_66 c11 ?_
    refine G_iconst (v := (1 : Int32)) dX10_mark_69 (by decide) ?_
    refine G_iload_n dX10_mark_70 rfl ?_
    refine G_ishl dX10_mark_71 ?_
    refine G_ior dX10_mark_72 ?_
    refine G_putI fl_X10_laid w_509 dX10_mark_73 c11 ?_
    refine G.nmh fun h12 eh12 => ?_
    have hw := wp_bd hw h12 eh12
    refine G_iconst (v := (1 : Int32)) dX10_mark_76 (by decide) ?_
    exact G_zreturn rfl dX10_mark_77 rfl ⟨_, rfl, wp_ret hw⟩
  · have hw := hw.2 c1
    refine G_aload_n dX10_mark_30 rfl ?_
    obtain ⟨c13, hw⟩ := wp_ck hw
    refine G_getR fl_X10_now w_498 dX10_mark_31 c13 ?_
    obtain ⟨a14, ea14, hw⟩ := wp_rq hw
    refine G.sure ea14 ?_
    refine G_aload_n dX10_mark_34 rfl ?_
    refine G_getR fl_X10_marks w_499 dX10_mark_35 c13 ?_
    obtain ⟨a15, ea15, hw⟩ := wp_rq hw
    refine G.sure ea15 ?_
    refine G_iload_n dX10_mark_38 rfl ?_
    obtain ⟨c16, hw⟩ := wp_ck hw
    obtain ⟨c17, hw⟩ := wp_ck hw
    refine G_aaload15 dX10_mark_39 c16 c17 ?_
    obtain ⟨a18, ea18, hw⟩ := wp_rq hw
    refine G.sure ea18 ?_
    obtain ⟨c21, hw⟩ := wp_ck hw
    refine G_callV (As := [.ref a18]) (s_X2_copy hs a14 a18 h _ (wp_cl hw)) ca_X2_copy w_1280 w_1281 (ci := 2) rfl (by decide) w_1279 c21 (Nat.le_of_ble_eq_true rfl) (Nat.le_of_ble_eq_true rfl) rfl (Nat.le_of_ble_eq_true rfl) (Nat.le_of_ble_eq_true rfl) (Nat.le_of_ble_eq_true rfl) dX10_mark_40 rfl (fun v h20 hq => ?_)
    obtain ⟨rfl, hw⟩ := hq
    refine G.cse (cs' := (0, 0)) rfl ?_
    show GZ _ _ _ _ _ _ _ 43 _ [] _ _
    refine G_aload_n dX10_mark_43 rfl ?_
    refine G_iconst (v := (0 : Int32)) dX10_mark_44 (by decide) ?_
    obtain ⟨c22, hw⟩ := wp_ck hw
    refine G_putI fl_X10_pastCount w_511 dX10_mark_45 c22 ?_
    refine G.nmh fun h23 eh23 => ?_
    have hw := wp_bd hw h23 eh23
    refine G_goto (tgt := 76) dX10_mark_48 rfl ?_
    refine G_iconst (v := (1 : Int32)) dX10_mark_76 (by decide) ?_
    exact G_zreturn rfl dX10_mark_77 rfl ⟨_, rfl, wp_ret hw⟩
set_option maxHeartbeats 4000000 in
set_option maxRecDepth 100000 in
theorem s_X10_mark {Γ : GX} (hs : SF Γ) {N : Nat} (l0 : Nat) (l1 : Int32) (l2 : Int32) (h : PH) (Q : Int32 → PH → Prop) (hw : wp (f_X10_mark N l0 l1 l2 h) Q) : Spec Γ yX10_mark cX10_mark 3 (some .boolean) (4, 0, 0) [.ref l0, .int l1, .int l2] h (q_i Q) := by
  refine Spec.of (by decide) (Nat.le_of_ble_eq_true rfl) [some (.ref l0), some (.int l1), some (.int l2)] rfl ?_
  unfold f_X10_mark at hw
  refine G_iload_n dX10_mark_0 rfl ?_
  have hw := wp_if hw
  refine G_if_lt (tgt := 24) dX10_mark_1 rfl (fun c1 => ?_) (fun c1 => ?_)
  · have hw := hw.1 c1
    refine G_iconst (v := (0 : Int32)) dX10_mark_24 (by decide) ?_
    exact G_zreturn rfl dX10_mark_25 rfl ⟨_, rfl, wp_ret hw⟩
  · have hw := hw.2 c1
    refine G_iload_n dX10_mark_4 rfl ?_
    refine G_iconst (v := (4 : Int32)) dX10_mark_5 (by decide) ?_
    have hw := wp_if hw
    refine G_icmp_ge (tgt := 24) dX10_mark_6 rfl (fun c2 => ?_) (fun c2 => ?_)
    · have hw := hw.1 c2
      refine G_iconst (v := (0 : Int32)) dX10_mark_24 (by decide) ?_
      exact G_zreturn rfl dX10_mark_25 rfl ⟨_, rfl, wp_ret hw⟩
    · have hw := hw.2 c2
      refine G_iload_n dX10_mark_9 rfl ?_
      have hw := wp_if hw
      refine G_if_eq (tgt := 26) dX10_mark_10 rfl (fun c3 => ?_) (fun c3 => ?_)
      · have hw := hw.1 c3
        refine G.less [some (.ref l0), some (.int l1), some (.int l2)] ⟨rfl, ⟨rfl, ⟨rfl, trivial⟩⟩⟩ ?_
        exact f_X10_mark_26_ok hs _ _ _ h Q hw
      · have hw := hw.2 c3
        refine G_aload_n dX10_mark_13 rfl ?_
        obtain ⟨c4, hw⟩ := wp_ck hw
        refine G_getI fl_X10_laid w_509 dX10_mark_14 c4 ?_
        refine G_iload_n dX10_mark_17 rfl ?_
        refine G_ishr dX10_mark_18 ?_
        refine G_iconst (v := (1 : Int32)) dX10_mark_19 (by decide) ?_
        refine G_iand dX10_mark_20 ?_
        have hw := wp_if hw
        refine G_if_ne (tgt := 26) dX10_mark_21 rfl (fun c5 => ?_) (fun c5 => ?_)
        · have hw := hw.2 c5
          refine G.less [some (.ref l0), some (.int l1), some (.int l2)] ⟨rfl, ⟨rfl, ⟨rfl, trivial⟩⟩⟩ ?_
          exact f_X10_mark_26_ok hs _ _ _ h Q hw
        · have hw := hw.1 c5
          refine G_iconst (v := (0 : Int32)) dX10_mark_24 (by decide) ?_
          exact G_zreturn rfl dX10_mark_25 rfl ⟨_, rfl, wp_ret hw⟩
set_option maxHeartbeats 4000000 in
set_option maxRecDepth 100000 in
theorem f_X10_count_19_ok {Γ : GX} (hs : SF Γ) {N : Nat} (l0 : Nat) (l1 : Int32) (h : PH) (Q : Int32 → PH → Prop) (hw : wp (f_X10_count_19 N l0 l1 h) Q) : G Γ yX10_count cX10_count 2 (some .int) (3, 0, 0) 19 [some (.ref l0), some (.int l1)] [] h (0, 0) (q_i Q) := by
  unfold f_X10_count_19 at hw
  refine G_iload_n dX10_count_19 rfl ?_
  have hw := wp_if hw
  by_cases n0 : l1 = 5
  · have hw := hw.1 n0
    refine G_tableIn (off := 52) (tgt := 72) dX10_count_20 (by rw [n0]; decide) (by rw [n0]; decide) (by rw [n0]; rfl) rfl ?_
    refine G_aload_n dX10_count_72 rfl ?_
    obtain ⟨c1, hw⟩ := wp_ck hw
    refine G_getR fl_X10_now w_498 dX10_count_73 c1 ?_
    obtain ⟨a2, ea2, hw⟩ := wp_rq hw
    refine G.sure ea2 ?_
    obtain ⟨c3, hw⟩ := wp_ck hw
    refine G_getNR fl_X2_state w_257 dX10_count_76 c3 ?_
    obtain ⟨a4, ea4, hw⟩ := wp_rq hw
    refine G.sure ea4 ?_
    obtain ⟨c5, hw⟩ := wp_ck hw
    refine G_getNI fl_X4_hour w_219 dX10_count_79 c5 ?_
    exact G_ireturn rfl dX10_count_82 ⟨_, rfl, wp_ret hw⟩
  have hw := hw.2 n0
  have hw := wp_if hw
  by_cases n1 : l1 = 6
  · have hw := hw.1 n1
    refine G_tableIn (off := 63) (tgt := 83) dX10_count_20 (by rw [n1]; decide) (by rw [n1]; decide) (by rw [n1]; rfl) rfl ?_
    refine G_aload_n dX10_count_83 rfl ?_
    obtain ⟨c6, hw⟩ := wp_ck hw
    refine G_getR fl_X10_valley w_507 dX10_count_84 c6 ?_
    obtain ⟨a7, ea7, hw⟩ := wp_rq hw
    refine G.sure ea7 ?_
    refine G_aload_n dX10_count_87 rfl ?_
    refine G_getR fl_X10_now w_498 dX10_count_88 c6 ?_
    obtain ⟨a8, ea8, hw⟩ := wp_rq hw
    refine G.sure ea8 ?_
    obtain ⟨c9, hw⟩ := wp_ck hw
    refine G_getNR fl_X2_state w_257 dX10_count_91 c9 ?_
    obtain ⟨a10, ea10, hw⟩ := wp_rq hw
    refine G.sure ea10 ?_
    obtain ⟨c11, hw⟩ := wp_ck hw
    refine G_getNI fl_X4_hour w_219 dX10_count_94 c11 ?_
    obtain ⟨c14, hw⟩ := wp_ck hw
    refine G_callV (As := [.int (hI h a10 0)]) (s_X6_windAt hs a7 (hI h a10 0) h _ (wp_cl hw)) ca_X6_windAt w_975 w_976 (ci := 6) rfl (by decide) w_1290 c14 (Nat.le_of_ble_eq_true rfl) (Nat.le_of_ble_eq_true rfl) rfl (Nat.le_of_ble_eq_true rfl) (Nat.le_of_ble_eq_true rfl) (Nat.le_of_ble_eq_true rfl) dX10_count_97 rfl (fun v h13 hq => ?_)
    obtain ⟨r12, rfl, hw⟩ := hq
    refine G.cse (cs' := (0, 0)) rfl ?_
    show GZ _ _ _ _ _ _ _ 100 _ (.int r12 :: []) _ _
    exact G_ireturn rfl dX10_count_100 ⟨_, rfl, wp_ret hw⟩
  have hw := hw.2 n1
  have hw := wp_if hw
  by_cases n2 : l1 = 7
  · have hw := hw.1 n2
    refine G_tableIn (off := 81) (tgt := 101) dX10_count_20 (by rw [n2]; decide) (by rw [n2]; decide) (by rw [n2]; rfl) rfl ?_
    refine G_aload_n dX10_count_101 rfl ?_
    obtain ⟨c15, hw⟩ := wp_ck hw
    refine G_getR fl_X10_now w_498 dX10_count_102 c15 ?_
    obtain ⟨a16, ea16, hw⟩ := wp_rq hw
    refine G.sure ea16 ?_
    obtain ⟨c17, hw⟩ := wp_ck hw
    refine G_getNR fl_X2_state w_257 dX10_count_105 c17 ?_
    obtain ⟨a18, ea18, hw⟩ := wp_rq hw
    refine G.sure ea18 ?_
    obtain ⟨c21, hw⟩ := wp_ck hw
    refine G_callV (As := []) (s_X4_fires hs a18 h _ (wp_cl hw)) ca_X4_fires w_1243 w_1244 (ci := 4) rfl (by decide) w_1242 c21 (Nat.le_of_ble_eq_true rfl) (Nat.le_of_ble_eq_true rfl) rfl (Nat.le_of_ble_eq_true rfl) (Nat.le_of_ble_eq_true rfl) (Nat.le_of_ble_eq_true rfl) dX10_count_108 rfl (fun v h20 hq => ?_)
    obtain ⟨r19, rfl, hw⟩ := hq
    refine G.cse (cs' := (0, 0)) rfl ?_
    show GZ _ _ _ _ _ _ _ 111 _ (.int r19 :: []) _ _
    exact G_ireturn rfl dX10_count_111 ⟨_, rfl, wp_ret hw⟩
  have hw := hw.2 n2
  have hw := wp_if hw
  by_cases n3 : l1 = 8
  · have hw := hw.1 n3
    refine G_tableIn (off := 92) (tgt := 112) dX10_count_20 (by rw [n3]; decide) (by rw [n3]; decide) (by rw [n3]; rfl) rfl ?_
    refine G_aload_n dX10_count_112 rfl ?_
    obtain ⟨c22, hw⟩ := wp_ck hw
    refine G_getR fl_X10_now w_498 dX10_count_113 c22 ?_
    obtain ⟨a23, ea23, hw⟩ := wp_rq hw
    refine G.sure ea23 ?_
    obtain ⟨c24, hw⟩ := wp_ck hw
    refine G_getNR fl_X2_state w_257 dX10_count_116 c24 ?_
    obtain ⟨a25, ea25, hw⟩ := wp_rq hw
    refine G.sure ea25 ?_
    obtain ⟨c28, hw⟩ := wp_ck hw
    refine G_callV (As := []) (s_X4_stockOfAll hs a25 h _ (wp_cl hw)) ca_X4_stockOfAll w_1272 w_1273 (ci := 4) rfl (by decide) w_1271 c28 (Nat.le_of_ble_eq_true rfl) (Nat.le_of_ble_eq_true rfl) rfl (Nat.le_of_ble_eq_true rfl) (Nat.le_of_ble_eq_true rfl) (Nat.le_of_ble_eq_true rfl) dX10_count_119 rfl (fun v h27 hq => ?_)
    obtain ⟨r26, rfl, hw⟩ := hq
    refine G.cse (cs' := (0, 0)) rfl ?_
    show GZ _ _ _ _ _ _ _ 122 _ (.int r26 :: []) _ _
    exact G_ireturn rfl dX10_count_122 ⟨_, rfl, wp_ret hw⟩
  have hw := hw.2 n3
  have hw := wp_if hw
  by_cases n4 : l1 = 9
  · have hw := hw.1 n4
    refine G_tableIn (off := 103) (tgt := 123) dX10_count_20 (by rw [n4]; decide) (by rw [n4]; decide) (by rw [n4]; rfl) rfl ?_
    refine G_aload_n dX10_count_123 rfl ?_
    obtain ⟨c29, hw⟩ := wp_ck hw
    refine G_getR fl_X10_now w_498 dX10_count_124 c29 ?_
    obtain ⟨a30, ea30, hw⟩ := wp_rq hw
    refine G.sure ea30 ?_
    obtain ⟨c31, hw⟩ := wp_ck hw
    refine G_getNR fl_X2_state w_257 dX10_count_127 c31 ?_
    obtain ⟨a32, ea32, hw⟩ := wp_rq hw
    refine G.sure ea32 ?_
    obtain ⟨c35, hw⟩ := wp_ck hw
    refine G_callV (As := []) (s_X4_sootOfAll hs a32 h _ (wp_cl hw)) ca_X4_sootOfAll w_1096 w_1097 (ci := 4) rfl (by decide) w_1095 c35 (Nat.le_of_ble_eq_true rfl) (Nat.le_of_ble_eq_true rfl) rfl (Nat.le_of_ble_eq_true rfl) (Nat.le_of_ble_eq_true rfl) (Nat.le_of_ble_eq_true rfl) dX10_count_130 rfl (fun v h34 hq => ?_)
    obtain ⟨r33, rfl, hw⟩ := hq
    refine G.cse (cs' := (0, 0)) rfl ?_
    show GZ _ _ _ _ _ _ _ 133 _ (.int r33 :: []) _ _
    exact G_ireturn rfl dX10_count_133 ⟨_, rfl, wp_ret hw⟩
  have hw := hw.2 n4
  have hw := wp_if hw
  by_cases n5 : l1 = 10
  · have hw := hw.1 n5
    refine G_tableIn (off := 114) (tgt := 134) dX10_count_20 (by rw [n5]; decide) (by rw [n5]; decide) (by rw [n5]; rfl) rfl ?_
    refine G_aload_n dX10_count_134 rfl ?_
    obtain ⟨c36, hw⟩ := wp_ck hw
    refine G_getR fl_X10_now w_498 dX10_count_135 c36 ?_
    obtain ⟨a37, ea37, hw⟩ := wp_rq hw
    refine G.sure ea37 ?_
    obtain ⟨c38, hw⟩ := wp_ck hw
    refine G_getNR fl_X2_day w_259 dX10_count_138 c38 ?_
    obtain ⟨a39, ea39, hw⟩ := wp_rq hw
    refine G.sure ea39 ?_
    obtain ⟨c40, hw⟩ := wp_ck hw
    refine G_getNI fl_X0_lines w_249 dX10_count_141 c40 ?_
    exact G_ireturn rfl dX10_count_144 ⟨_, rfl, wp_ret hw⟩
  have hw := hw.2 n5
  have hw := wp_if hw
  by_cases n6 : l1 = 11
  · have hw := hw.1 n6
    refine G_tableIn (off := 125) (tgt := 145) dX10_count_20 (by rw [n6]; decide) (by rw [n6]; decide) (by rw [n6]; rfl) rfl ?_
    refine G_aload_n dX10_count_145 rfl ?_
    obtain ⟨c41, hw⟩ := wp_ck hw
    refine G_getR fl_X10_now w_498 dX10_count_146 c41 ?_
    obtain ⟨a42, ea42, hw⟩ := wp_rq hw
    refine G.sure ea42 ?_
    obtain ⟨c43, hw⟩ := wp_ck hw
    refine G_getNI fl_X2_reads w_264 dX10_count_149 c43 ?_
    exact G_ireturn rfl dX10_count_152 ⟨_, rfl, wp_ret hw⟩
  have hw := hw.2 n6
  have hw := wp_if hw
  by_cases n7 : l1 = 12
  · have hw := hw.1 n7
    refine G_tableIn (off := 133) (tgt := 153) dX10_count_20 (by rw [n7]; decide) (by rw [n7]; decide) (by rw [n7]; rfl) rfl ?_
    refine G_aload_n dX10_count_153 rfl ?_
    obtain ⟨c44, hw⟩ := wp_ck hw
    refine G_getI fl_X10_pastCount w_511 dX10_count_154 c44 ?_
    exact G_ireturn rfl dX10_count_157 ⟨_, rfl, wp_ret hw⟩
  have hw := hw.2 n7
  have hw := wp_if hw
  by_cases n8 : l1 = 13
  · have hw := hw.1 n8
    refine G_tableIn (off := 138) (tgt := 158) dX10_count_20 (by rw [n8]; decide) (by rw [n8]; decide) (by rw [n8]; rfl) rfl ?_
    refine G_aload_n dX10_count_158 rfl ?_
    obtain ⟨c45, hw⟩ := wp_ck hw
    refine G_getR fl_X10_tape w_497 dX10_count_159 c45 ?_
    obtain ⟨a46, ea46, hw⟩ := wp_rq hw
    refine G.sure ea46 ?_
    obtain ⟨c47, hw⟩ := wp_ck hw
    refine G_getNI fl_X5_length w_169 dX10_count_162 c47 ?_
    exact G_ireturn rfl dX10_count_165 ⟨_, rfl, wp_ret hw⟩
  have hw := hw.2 n8
  refine G_tableOut (tgt := 166) dX10_count_20 ?_ rfl ?_
  · rcases Int.lt_or_le l1.toInt (5) with q | q
    · exact Or.inl q
    · refine Or.inr ?_
      have m0 : l1.toInt ≠ 5 := fun q => n0 (Int32.toInt_inj.mp (by rw [q]; rfl))
      have m1 : l1.toInt ≠ 6 := fun q => n1 (Int32.toInt_inj.mp (by rw [q]; rfl))
      have m2 : l1.toInt ≠ 7 := fun q => n2 (Int32.toInt_inj.mp (by rw [q]; rfl))
      have m3 : l1.toInt ≠ 8 := fun q => n3 (Int32.toInt_inj.mp (by rw [q]; rfl))
      have m4 : l1.toInt ≠ 9 := fun q => n4 (Int32.toInt_inj.mp (by rw [q]; rfl))
      have m5 : l1.toInt ≠ 10 := fun q => n5 (Int32.toInt_inj.mp (by rw [q]; rfl))
      have m6 : l1.toInt ≠ 11 := fun q => n6 (Int32.toInt_inj.mp (by rw [q]; rfl))
      have m7 : l1.toInt ≠ 12 := fun q => n7 (Int32.toInt_inj.mp (by rw [q]; rfl))
      have m8 : l1.toInt ≠ 13 := fun q => n8 (Int32.toInt_inj.mp (by rw [q]; rfl))
      omega
  refine G_iconst (v := (-1 : Int32)) dX10_count_166 (by decide) ?_
  exact G_ireturn rfl dX10_count_167 ⟨_, rfl, wp_ret hw⟩
set_option maxHeartbeats 4000000 in
set_option maxRecDepth 100000 in
theorem s_X10_count {Γ : GX} (hs : SF Γ) {N : Nat} (l0 : Nat) (l1 : Int32) (h : PH) (Q : Int32 → PH → Prop) (hw : wp (f_X10_count N l0 l1 h) Q) : Spec Γ yX10_count cX10_count 2 (some .int) (3, 0, 0) [.ref l0, .int l1] h (q_i Q) := by
  refine Spec.of (by decide) (Nat.le_of_ble_eq_true rfl) [some (.ref l0), some (.int l1)] rfl ?_
  unfold f_X10_count at hw
  refine G_iload_n dX10_count_0 rfl ?_
  have hw := wp_if hw
  refine G_if_lt (tgt := 19) dX10_count_1 rfl (fun c1 => ?_) (fun c1 => ?_)
  · have hw := hw.1 c1
    refine G.less [some (.ref l0), some (.int l1)] ⟨rfl, ⟨rfl, trivial⟩⟩ ?_
    exact f_X10_count_19_ok hs _ _ h Q hw
  · have hw := hw.2 c1
    refine G_iload_n dX10_count_4 rfl ?_
    refine G_iconst (v := (4 : Int32)) dX10_count_5 (by decide) ?_
    have hw := wp_if hw
    refine G_icmp_gt (tgt := 19) dX10_count_6 rfl (fun c2 => ?_) (fun c2 => ?_)
    · have hw := hw.1 c2
      refine G.less [some (.ref l0), some (.int l1)] ⟨rfl, ⟨rfl, trivial⟩⟩ ?_
      exact f_X10_count_19_ok hs _ _ h Q hw
    · have hw := hw.2 c2
      refine G_aload_n dX10_count_9 rfl ?_
      obtain ⟨c3, hw⟩ := wp_ck hw
      refine G_getR fl_X10_valley w_507 dX10_count_10 c3 ?_
      obtain ⟨a4, ea4, hw⟩ := wp_rq hw
      refine G.sure ea4 ?_
      obtain ⟨c5, hw⟩ := wp_ck hw
      refine G_getNR fl_X6_many w_431 dX10_count_13 c5 ?_
      obtain ⟨a6, ea6, hw⟩ := wp_rq hw
      refine G.sure ea6 ?_
      refine G_iload_n dX10_count_16 rfl ?_
      obtain ⟨c7, hw⟩ := wp_ck hw
      obtain ⟨c8, hw⟩ := wp_ck hw
      refine G_iaload dX10_count_17 c7 c8 ?_
      exact G_ireturn rfl dX10_count_18 ⟨_, rfl, wp_ret hw⟩
set_option maxHeartbeats 4000000 in
set_option maxRecDepth 100000 in
theorem s_X11_thrown {Γ : GX} (hs : SF Γ) {N : Nat} (l0 : Nat) (h : PH) (Q : Int32 → PH → Prop) (hw : wp (f_X11_thrown N l0 h) Q) : Spec Γ yX11_thrown cX11_thrown 1 (some .int) (1, 0, 0) [.ref l0] h (q_i Q) := by
  refine Spec.of (by decide) (Nat.le_of_ble_eq_true rfl) [some (.ref l0)] rfl ?_
  unfold f_X11_thrown at hw
  refine G_aload_n dX11_thrown_0 rfl ?_
  obtain ⟨c1, hw⟩ := wp_ck hw
  refine G_getI fl_X11_thrown w_1393 dX11_thrown_1 c1 ?_
  exact G_ireturn rfl dX11_thrown_4 ⟨_, rfl, wp_ret hw⟩
set_option maxHeartbeats 4000000 in
set_option maxRecDepth 100000 in
theorem s_X11_within {Γ : GX} (hs : SF Γ) {N : Nat} (l0 : Int32) (l1 : Int32) (l2 : Int32) (h : PH) (Q : Int32 → PH → Prop) (hw : wp (f_X11_within N l0 l1 l2 h) Q) : Spec Γ yX11_within cX11_within 3 (some .boolean) (1, 0, 0) [.int l0, .int l1, .int l2] h (q_i Q) := by
  refine Spec.of (by decide) (Nat.le_of_ble_eq_true rfl) [some (.int l0), some (.int l1), some (.int l2)] rfl ?_
  unfold f_X11_within at hw
  refine G_iload_n dX11_within_0 rfl ?_
  refine G_iload_n dX11_within_1 rfl ?_
  have hw := wp_if hw
  refine G_icmp_lt (tgt := 14) dX11_within_2 rfl (fun c1 => ?_) (fun c1 => ?_)
  · have hw := hw.1 c1
    refine G_iconst (v := (0 : Int32)) dX11_within_14 (by decide) ?_
    exact G_zreturn rfl dX11_within_15 rfl ⟨_, rfl, wp_ret hw⟩
  · have hw := hw.2 c1
    refine G_iload_n dX11_within_5 rfl ?_
    refine G_iload_n dX11_within_6 rfl ?_
    have hw := wp_if hw
    refine G_icmp_gt (tgt := 14) dX11_within_7 rfl (fun c2 => ?_) (fun c2 => ?_)
    · have hw := hw.1 c2
      refine G_iconst (v := (0 : Int32)) dX11_within_14 (by decide) ?_
      exact G_zreturn rfl dX11_within_15 rfl ⟨_, rfl, wp_ret hw⟩
    · have hw := hw.2 c2
      refine G_iconst (v := (1 : Int32)) dX11_within_10 (by decide) ?_
      refine G_goto (tgt := 15) dX11_within_11 rfl ?_
      exact G_zreturn rfl dX11_within_15 rfl ⟨_, rfl, wp_ret hw⟩
set_option maxHeartbeats 4000000 in
set_option maxRecDepth 100000 in
theorem s_X11_between {Γ : GX} (hs : SF Γ) {N : Nat} (l0 : Int32) (l1 : Int32) (l2 : Int32) (h : PH) (Q : Int32 → PH → Prop) (hw : wp (f_X11_between N l0 l1 l2 h) Q) : Spec Γ yX11_between cX11_between 3 (some .int) (1, 0, 0) [.int l0, .int l1, .int l2] h (q_i Q) := by
  refine Spec.of (by decide) (Nat.le_of_ble_eq_true rfl) [some (.int l0), some (.int l1), some (.int l2)] rfl ?_
  unfold f_X11_between at hw
  refine G_iload_n dX11_between_0 rfl ?_
  refine G_iload_n dX11_between_1 rfl ?_
  have hw := wp_if hw
  refine G_icmp_ge (tgt := 9) dX11_between_2 rfl (fun c1 => ?_) (fun c1 => ?_)
  · have hw := hw.1 c1
    refine G_iload_n dX11_between_9 rfl ?_
    refine G_iload_n dX11_between_10 rfl ?_
    have hw := wp_if hw
    refine G_icmp_le (tgt := 18) dX11_between_11 rfl (fun c2 => ?_) (fun c2 => ?_)
    · have hw := hw.1 c2
      refine G_iload_n dX11_between_18 rfl ?_
      exact G_ireturn rfl dX11_between_19 ⟨_, rfl, wp_ret hw⟩
    · have hw := hw.2 c2
      refine G_iload_n dX11_between_14 rfl ?_
      refine G_goto (tgt := 19) dX11_between_15 rfl ?_
      exact G_ireturn rfl dX11_between_19 ⟨_, rfl, wp_ret hw⟩
  · have hw := hw.2 c1
    refine G_iload_n dX11_between_5 rfl ?_
    refine G_goto (tgt := 19) dX11_between_6 rfl ?_
    exact G_ireturn rfl dX11_between_19 ⟨_, rfl, wp_ret hw⟩
set_option maxHeartbeats 4000000 in
set_option maxRecDepth 100000 in
theorem f_X11_feed_114_ok {Γ : GX} (hs : SF Γ) {N : Nat} {K_8 : Nat → Int64 → Int64 → Int64 → Int32 → PH → Option (Int32 × PH)} (hK_8 : ∀ (l0 : Nat) (l1 : Int64) (l3 : Int64) (l5 : Int64) (l7 : Int32) (h : PH) (Q : Int32 → PH → Prop), wp (K_8 l0 l1 l3 l5 l7 h) Q → G Γ yX11_feed cX11_feed 11 (some .int) (1, 0, 0) 8 [some (.ref l0), some (.long l1), none, some (.long l3), none, some (.long l5), none, some (.int l7), none, none, none] [] h (0, 0) (q_i Q)) (l0 : Nat) (l1 : Int64) (l3 : Int64) (l5 : Int64) (l7 : Int32) (h : PH) (Q : Int32 → PH → Prop) (hw : wp (f_X11_feed_114 N K_8 l0 l1 l3 l5 l7 h) Q) : G Γ yX11_feed cX11_feed 11 (some .int) (1, 0, 0) 114 [some (.ref l0), some (.long l1), none, some (.long l3), none, some (.long l5), none, some (.int l7), none, none, none] [] h (0, 0) (q_i Q) := by
  unfold f_X11_feed_114 at hw
  obtain ⟨v1, ev1⟩ : ∃ z : Int32, z = l7 + (1 : Int32) := ⟨_, rfl⟩
  have hw := wp_bd hw v1 ev1
  refine G_iinc (v := v1) (lv' := [some (.ref l0), some (.long l1), none, some (.long l3), none, some (.long l5), none, some (.int v1), none, none, none]) dX11_feed_114 rfl (by rw [ev1]; rfl) (Nat.le_of_ble_eq_true rfl) rfl ?_
  refine G_goto (tgt := 8) dX11_feed_117 rfl ?_
  refine G.less [some (.ref l0), some (.long l1), none, some (.long l3), none, some (.long l5), none, some (.int v1), none, none, none] ⟨rfl, ⟨rfl, ⟨rfl, ⟨rfl, ⟨rfl, trivial⟩⟩⟩⟩⟩ ?_
  exact hK_8 _ _ _ _ _ h Q hw
set_option maxHeartbeats 4000000 in
set_option maxRecDepth 100000 in
theorem f_X11_feed_93_ok {Γ : GX} (hs : SF Γ) {N : Nat} {K_8 : Nat → Int64 → Int64 → Int64 → Int32 → PH → Option (Int32 × PH)} (hK_8 : ∀ (l0 : Nat) (l1 : Int64) (l3 : Int64) (l5 : Int64) (l7 : Int32) (h : PH) (Q : Int32 → PH → Prop), wp (K_8 l0 l1 l3 l5 l7 h) Q → G Γ yX11_feed cX11_feed 11 (some .int) (1, 0, 0) 8 [some (.ref l0), some (.long l1), none, some (.long l3), none, some (.long l5), none, some (.int l7), none, none, none] [] h (0, 0) (q_i Q)) (l0 : Nat) (l1 : Int64) (l3 : Int64) (l5 : Int64) (l7 : Int32) (l10 : Int32) (h : PH) (Q : Int32 → PH → Prop) (hw : wp (f_X11_feed_93 N K_8 l0 l1 l3 l5 l7 l10 h) Q) : G Γ yX11_feed cX11_feed 11 (some .int) (1, 0, 0) 93 [some (.ref l0), some (.long l1), none, some (.long l3), none, some (.long l5), none, some (.int l7), none, none, some (.int l10)] [] h (0, 0) (q_i Q) := by
  unfold f_X11_feed_93 at hw
  refine G_aload_n dX11_feed_93 rfl ?_
  obtain ⟨c1, hw⟩ := wp_ck hw
  refine G_getR fl_X11_tape w_1395 dX11_feed_94 c1 ?_
  obtain ⟨a2, ea2, hw⟩ := wp_rq hw
  refine G.sure ea2 ?_
  refine G_aload_n dX11_feed_97 rfl ?_
  refine G_getI fl_X11_taped w_1394 dX11_feed_98 c1 ?_
  refine G_iload dX11_feed_101 rfl ?_
  obtain ⟨c3, hw⟩ := wp_ck hw
  obtain ⟨c4, hw⟩ := wp_ck hw
  refine G_iastore dX11_feed_103 c3 c4 ?_
  refine G.nmh fun h5 eh5 => ?_
  have hw := wp_bd hw h5 eh5
  refine G_aload_n dX11_feed_104 rfl ?_
  refine G_dup dX11_feed_105 rfl ?_
  obtain ⟨c6, hw⟩ := wp_ck hw
  refine G_getI fl_X11_taped w_1394 dX11_feed_106 c6 ?_
  refine G_iconst (v := (1 : Int32)) dX11_feed_109 (by decide) ?_
  refine G_iadd dX11_feed_110 ?_
  refine G_putI fl_X11_taped w_1394 dX11_feed_111 c6 ?_
  refine G.nmh fun h7 eh7 => ?_
  have hw := wp_bd hw h7 eh7
  refine G.less [some (.ref l0), some (.long l1), none, some (.long l3), none, some (.long l5), none, some (.int l7), none, none, none] ⟨rfl, ⟨rfl, ⟨rfl, ⟨rfl, ⟨rfl, trivial⟩⟩⟩⟩⟩ ?_
  exact f_X11_feed_114_ok hs hK_8 _ _ _ _ _ h7 Q hw
set_option maxHeartbeats 4000000 in
set_option maxRecDepth 100000 in
theorem f_X11_feed_39_ok {Γ : GX} (hs : SF Γ) {N : Nat} {K_8 : Nat → Int64 → Int64 → Int64 → Int32 → PH → Option (Int32 × PH)} (hK_8 : ∀ (l0 : Nat) (l1 : Int64) (l3 : Int64) (l5 : Int64) (l7 : Int32) (h : PH) (Q : Int32 → PH → Prop), wp (K_8 l0 l1 l3 l5 l7 h) Q → G Γ yX11_feed cX11_feed 11 (some .int) (1, 0, 0) 8 [some (.ref l0), some (.long l1), none, some (.long l3), none, some (.long l5), none, some (.int l7), none, none, none] [] h (0, 0) (q_i Q)) (s0 : Int64) (l0 : Nat) (l1 : Int64) (l3 : Int64) (l5 : Int64) (l7 : Int32) (h : PH) (Q : Int32 → PH → Prop) (hw : wp (f_X11_feed_39 N K_8 s0 l0 l1 l3 l5 l7 h) Q) : G Γ yX11_feed cX11_feed 11 (some .int) (1, 0, 0) 39 [some (.ref l0), some (.long l1), none, some (.long l3), none, some (.long l5), none, some (.int l7), none, none, none] [.long s0] h (0, 0) (q_i Q) := by
  unfold f_X11_feed_39 at hw
  refine G_lstore (lv' := [some (.ref l0), some (.long l1), none, some (.long l3), none, some (.long l5), none, some (.int l7), some (.long s0), none, none]) dX11_feed_39 (Nat.le_of_ble_eq_true rfl) rfl ?_
  refine G_lload dX11_feed_41 rfl ?_
  refine G_bipush (v := (56 : Int32)) dX11_feed_43 (by decide) ?_
  refine G_bipush (v := (8 : Int32)) dX11_feed_45 (by decide) ?_
  refine G_iload dX11_feed_47 rfl ?_
  refine G_bipush (v := (7 : Int32)) dX11_feed_49 (by decide) ?_
  refine G_iand dX11_feed_51 ?_
  refine G_imul dX11_feed_52 ?_
  refine G_isub dX11_feed_53 ?_
  refine G_lushr dX11_feed_54 ?_
  refine G_ldc2 (v := (255 : Int64)) dX11_feed_55 w_1601 ?_
  refine G_land dX11_feed_58 ?_
  refine G_l2i dX11_feed_59 ?_
  refine G.topi fun v1 ev1 => ?_
  have hw := wp_bd hw v1 ev1
  refine G_istore (lv' := [some (.ref l0), some (.long l1), none, some (.long l3), none, some (.long l5), none, some (.int l7), some (.long s0), none, some (.int v1)]) dX11_feed_60 (Nat.le_of_ble_eq_true rfl) rfl ?_
  refine G_aload_n dX11_feed_62 rfl ?_
  obtain ⟨c2, hw⟩ := wp_ck hw
  refine G_getI fl_X11_taped w_1394 dX11_feed_63 c2 ?_
  refine G_sipush (v := (1000 : Int32)) dX11_feed_66 (by decide) ?_
  have hw := wp_if hw
  refine G_icmp_ge (tgt := 114) dX11_feed_69 rfl (fun c3 => ?_) (fun c3 => ?_)
  · have hw := hw.1 c3
    refine G.less [some (.ref l0), some (.long l1), none, some (.long l3), none, some (.long l5), none, some (.int l7), none, none, none] ⟨rfl, ⟨rfl, ⟨rfl, ⟨rfl, ⟨rfl, trivial⟩⟩⟩⟩⟩ ?_
    exact f_X11_feed_114_ok hs hK_8 _ _ _ _ _ h Q hw
  · have hw := hw.2 c3
    refine G_iload dX11_feed_72 rfl ?_
    refine G_bipush (v := (10 : Int32)) dX11_feed_74 (by decide) ?_
    have hw := wp_if hw
    refine G_icmp_eq (tgt := 93) dX11_feed_76 rfl (fun c4 => ?_) (fun c4 => ?_)
    · have hw := hw.1 c4
      refine G.less [some (.ref l0), some (.long l1), none, some (.long l3), none, some (.long l5), none, some (.int l7), none, none, some (.int v1)] ⟨rfl, ⟨rfl, ⟨rfl, ⟨rfl, ⟨rfl, ⟨rfl, trivial⟩⟩⟩⟩⟩⟩ ?_
      exact f_X11_feed_93_ok hs hK_8 _ _ _ _ _ _ h Q hw
    · have hw := hw.2 c4
      refine G_iload dX11_feed_79 rfl ?_
      refine G_bipush (v := (32 : Int32)) dX11_feed_81 (by decide) ?_
      have hw := wp_if hw
      refine G_icmp_lt (tgt := 114) dX11_feed_83 rfl (fun c5 => ?_) (fun c5 => ?_)
      · have hw := hw.1 c5
        refine G.less [some (.ref l0), some (.long l1), none, some (.long l3), none, some (.long l5), none, some (.int l7), none, none, none] ⟨rfl, ⟨rfl, ⟨rfl, ⟨rfl, ⟨rfl, trivial⟩⟩⟩⟩⟩ ?_
        exact f_X11_feed_114_ok hs hK_8 _ _ _ _ _ h Q hw
      · have hw := hw.2 c5
        refine G_iload dX11_feed_86 rfl ?_
        refine G_bipush (v := (126 : Int32)) dX11_feed_88 (by decide) ?_
        have hw := wp_if hw
        refine G_icmp_gt (tgt := 114) dX11_feed_90 rfl (fun c6 => ?_) (fun c6 => ?_)
        · have hw := hw.1 c6
          refine G.less [some (.ref l0), some (.long l1), none, some (.long l3), none, some (.long l5), none, some (.int l7), none, none, none] ⟨rfl, ⟨rfl, ⟨rfl, ⟨rfl, ⟨rfl, trivial⟩⟩⟩⟩⟩ ?_
          exact f_X11_feed_114_ok hs hK_8 _ _ _ _ _ h Q hw
        · have hw := hw.2 c6
          refine G.less [some (.ref l0), some (.long l1), none, some (.long l3), none, some (.long l5), none, some (.int l7), none, none, some (.int v1)] ⟨rfl, ⟨rfl, ⟨rfl, ⟨rfl, ⟨rfl, ⟨rfl, trivial⟩⟩⟩⟩⟩⟩ ?_
          exact f_X11_feed_93_ok hs hK_8 _ _ _ _ _ _ h Q hw
set_option maxHeartbeats 4000000 in
set_option maxRecDepth 100000 in
theorem f_X11_feed_8_bok {Γ : GX} (hs : SF Γ) {N : Nat} {K_8 : Nat → Int64 → Int64 → Int64 → Int32 → PH → Option (Int32 × PH)} (hK_8 : ∀ (l0 : Nat) (l1 : Int64) (l3 : Int64) (l5 : Int64) (l7 : Int32) (h : PH) (Q : Int32 → PH → Prop), wp (K_8 l0 l1 l3 l5 l7 h) Q → G Γ yX11_feed cX11_feed 11 (some .int) (1, 0, 0) 8 [some (.ref l0), some (.long l1), none, some (.long l3), none, some (.long l5), none, some (.int l7), none, none, none] [] h (0, 0) (q_i Q)) (l0 : Nat) (l1 : Int64) (l3 : Int64) (l5 : Int64) (l7 : Int32) (h : PH) (Q : Int32 → PH → Prop) (hw : wp (f_X11_feed_8_b N K_8 l0 l1 l3 l5 l7 h) Q) : G Γ yX11_feed cX11_feed 11 (some .int) (1, 0, 0) 8 [some (.ref l0), some (.long l1), none, some (.long l3), none, some (.long l5), none, some (.int l7), none, none, none] [] h (0, 0) (q_i Q) := by
  unfold f_X11_feed_8_b at hw
  refine G_iload dX11_feed_8 rfl ?_
  refine G_bipush (v := (24 : Int32)) dX11_feed_10 (by decide) ?_
  have hw := wp_if hw
  refine G_icmp_ge (tgt := 120) dX11_feed_12 rfl (fun c1 => ?_) (fun c1 => ?_)
  · have hw := hw.1 c1
    refine G_aload_n dX11_feed_120 rfl ?_
    obtain ⟨c2, hw⟩ := wp_ck hw
    refine G_getI fl_X11_taped w_1394 dX11_feed_121 c2 ?_
    exact G_ireturn rfl dX11_feed_124 ⟨_, rfl, wp_ret hw⟩
  · have hw := hw.2 c1
    refine G_iload dX11_feed_15 rfl ?_
    refine G_bipush (v := (8 : Int32)) dX11_feed_17 (by decide) ?_
    have hw := wp_if hw
    refine G_icmp_ge (tgt := 26) dX11_feed_19 rfl (fun c3 => ?_) (fun c3 => ?_)
    · have hw := hw.1 c3
      refine G_iload dX11_feed_26 rfl ?_
      refine G_bipush (v := (16 : Int32)) dX11_feed_28 (by decide) ?_
      have hw := wp_if hw
      refine G_icmp_ge (tgt := 37) dX11_feed_30 rfl (fun c4 => ?_) (fun c4 => ?_)
      · have hw := hw.1 c4
        refine G_lload dX11_feed_37 rfl ?_
        refine G.less [some (.ref l0), some (.long l1), none, some (.long l3), none, some (.long l5), none, some (.int l7), none, none, none] ⟨rfl, ⟨rfl, ⟨rfl, ⟨rfl, ⟨rfl, trivial⟩⟩⟩⟩⟩ ?_
        exact f_X11_feed_39_ok hs hK_8 _ _ _ _ _ _ h Q hw
      · have hw := hw.2 c4
        refine G_lload_n dX11_feed_33 rfl ?_
        refine G_goto (tgt := 39) dX11_feed_34 rfl ?_
        refine G.less [some (.ref l0), some (.long l1), none, some (.long l3), none, some (.long l5), none, some (.int l7), none, none, none] ⟨rfl, ⟨rfl, ⟨rfl, ⟨rfl, ⟨rfl, trivial⟩⟩⟩⟩⟩ ?_
        exact f_X11_feed_39_ok hs hK_8 _ _ _ _ _ _ h Q hw
    · have hw := hw.2 c3
      refine G_lload_n dX11_feed_22 rfl ?_
      refine G_goto (tgt := 39) dX11_feed_23 rfl ?_
      refine G.less [some (.ref l0), some (.long l1), none, some (.long l3), none, some (.long l5), none, some (.int l7), none, none, none] ⟨rfl, ⟨rfl, ⟨rfl, ⟨rfl, ⟨rfl, trivial⟩⟩⟩⟩⟩ ?_
      exact f_X11_feed_39_ok hs hK_8 _ _ _ _ _ _ h Q hw
theorem f_X11_feed_8_ok {Γ : GX} (hs : SF Γ) {N : Nat} : ∀ (n : Nat) (l0 : Nat) (l1 : Int64) (l3 : Int64) (l5 : Int64) (l7 : Int32) (h : PH) (Q : Int32 → PH → Prop), wp (f_X11_feed_8 N n l0 l1 l3 l5 l7 h) Q → G Γ yX11_feed cX11_feed 11 (some .int) (1, 0, 0) 8 [some (.ref l0), some (.long l1), none, some (.long l3), none, some (.long l5), none, some (.int l7), none, none, none] [] h (0, 0) (q_i Q)
  | 0, _, _, _, _, _, _, Q, hw => (wp_no hw).elim
  | n + 1, l0, l1, l3, l5, l7, h, Q, hw => f_X11_feed_8_bok (N := N) hs (f_X11_feed_8_ok (N := N) hs n) l0 l1 l3 l5 l7 h Q hw
set_option maxHeartbeats 4000000 in
set_option maxRecDepth 100000 in
theorem s_X11_feed {Γ : GX} (hs : SF Γ) {N : Nat} (l0 : Nat) (l1 : Int64) (l3 : Int64) (l5 : Int64) (h : PH) (Q : Int32 → PH → Prop) (hw : wp (f_X11_feed N l0 l1 l3 l5 h) Q) : Spec Γ yX11_feed cX11_feed 11 (some .int) (1, 0, 0) [.ref l0, .long l1, .long l3, .long l5] h (q_i Q) := by
  refine Spec.of (by decide) (Nat.le_of_ble_eq_true rfl) [some (.ref l0), some (.long l1), none, some (.long l3), none, some (.long l5), none, none, none, none, none] rfl ?_
  unfold f_X11_feed at hw
  refine G_aload_n dX11_feed_0 rfl ?_
  refine G_iconst (v := (0 : Int32)) dX11_feed_1 (by decide) ?_
  obtain ⟨c1, hw⟩ := wp_ck hw
  refine G_putI fl_X11_thrown w_1393 dX11_feed_2 c1 ?_
  refine G.nmh fun h2 eh2 => ?_
  have hw := wp_bd hw h2 eh2
  refine G_iconst (v := (0 : Int32)) dX11_feed_5 (by decide) ?_
  refine G_istore (lv' := [some (.ref l0), some (.long l1), none, some (.long l3), none, some (.long l5), none, some (.int (0 : Int32)), none, none, none]) dX11_feed_6 (Nat.le_of_ble_eq_true rfl) rfl ?_
  refine G.less [some (.ref l0), some (.long l1), none, some (.long l3), none, some (.long l5), none, some (.int (0 : Int32)), none, none, none] ⟨rfl, ⟨rfl, ⟨rfl, ⟨rfl, ⟨rfl, trivial⟩⟩⟩⟩⟩ ?_
  exact f_X11_feed_8_ok hs N _ _ _ _ _ h2 Q hw
