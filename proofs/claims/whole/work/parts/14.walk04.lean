set_option maxHeartbeats 4000000 in
set_option maxRecDepth 100000 in
theorem f_X11_laysLines_14_bok {Γ : GX} (hs : SF Γ) {N : Nat} {K_14 : Nat → Int32 → Int32 → Int32 → PH → Option (Unit × PH)} (hK_14 : ∀ (l0 : Nat) (l1 : Int32) (l2 : Int32) (l3 : Int32) (h : PH) (Q : Unit → PH → Prop), wp (K_14 l0 l1 l2 l3 h) Q → G Γ yX11_laysLines cX11_laysLines 4 none (1, 0, 0) 14 [some (.ref l0), some (.int l1), some (.int l2), some (.int l3)] [] h (0, 0) (q_u Q)) (l0 : Nat) (l1 : Int32) (l2 : Int32) (l3 : Int32) (h : PH) (Q : Unit → PH → Prop) (hw : wp (f_X11_laysLines_14_b N K_14 l0 l1 l2 l3 h) Q) : G Γ yX11_laysLines cX11_laysLines 4 none (1, 0, 0) 14 [some (.ref l0), some (.int l1), some (.int l2), some (.int l3)] [] h (0, 0) (q_u Q) := by
  unfold f_X11_laysLines_14_b at hw
  refine G_iload_n dX11_laysLines_14 rfl ?_
  refine G_bipush (v := (40 : Int32)) dX11_laysLines_15 (by decide) ?_
  have hw := wp_if hw
  refine G_icmp_ge (tgt := 136) dX11_laysLines_17 rfl (fun c1 => ?_) (fun c1 => ?_)
  · have hw := hw.1 c1
    exact G_vreturn rfl dX11_laysLines_136 ⟨rfl, wp_ret hw⟩
  · have hw := hw.2 c1
    refine G_aload_n dX11_laysLines_20 rfl ?_
    obtain ⟨c2, hw⟩ := wp_ck hw
    refine G_getR fl_X11_lineWhat w_1433 dX11_laysLines_21 c2 ?_
    obtain ⟨a3, ea3, hw⟩ := wp_rq hw
    refine G.sure ea3 ?_
    refine G_bipush (v := (40 : Int32)) dX11_laysLines_24 (by decide) ?_
    refine G_iload_n dX11_laysLines_26 rfl ?_
    refine G_imul dX11_laysLines_27 ?_
    refine G_iload_n dX11_laysLines_28 rfl ?_
    refine G_iadd dX11_laysLines_29 ?_
    refine G_aload_n dX11_laysLines_30 rfl ?_
    refine G_getR fl_X11_lineWhat w_1433 dX11_laysLines_31 c2 ?_
    obtain ⟨a4, ea4, hw⟩ := wp_rq hw
    refine G.sure ea4 ?_
    refine G_bipush (v := (40 : Int32)) dX11_laysLines_34 (by decide) ?_
    refine G_iload_n dX11_laysLines_36 rfl ?_
    refine G_imul dX11_laysLines_37 ?_
    refine G_iload_n dX11_laysLines_38 rfl ?_
    refine G_iadd dX11_laysLines_39 ?_
    obtain ⟨c5, hw⟩ := wp_ck hw
    obtain ⟨c6, hw⟩ := wp_ck hw
    refine G_iaload dX11_laysLines_40 c5 c6 ?_
    obtain ⟨c7, hw⟩ := wp_ck hw
    obtain ⟨c8, hw⟩ := wp_ck hw
    refine G_iastore dX11_laysLines_41 c7 c8 ?_
    refine G.nmh fun h9 eh9 => ?_
    have hw := wp_bd hw h9 eh9
    refine G_aload_n dX11_laysLines_42 rfl ?_
    obtain ⟨c10, hw⟩ := wp_ck hw
    refine G_getR fl_X11_lineA w_1434 dX11_laysLines_43 c10 ?_
    obtain ⟨a11, ea11, hw⟩ := wp_rq hw
    refine G.sure ea11 ?_
    refine G_bipush (v := (40 : Int32)) dX11_laysLines_46 (by decide) ?_
    refine G_iload_n dX11_laysLines_48 rfl ?_
    refine G_imul dX11_laysLines_49 ?_
    refine G_iload_n dX11_laysLines_50 rfl ?_
    refine G_iadd dX11_laysLines_51 ?_
    refine G_aload_n dX11_laysLines_52 rfl ?_
    refine G_getR fl_X11_lineA w_1434 dX11_laysLines_53 c10 ?_
    obtain ⟨a12, ea12, hw⟩ := wp_rq hw
    refine G.sure ea12 ?_
    refine G_bipush (v := (40 : Int32)) dX11_laysLines_56 (by decide) ?_
    refine G_iload_n dX11_laysLines_58 rfl ?_
    refine G_imul dX11_laysLines_59 ?_
    refine G_iload_n dX11_laysLines_60 rfl ?_
    refine G_iadd dX11_laysLines_61 ?_
    obtain ⟨c13, hw⟩ := wp_ck hw
    obtain ⟨c14, hw⟩ := wp_ck hw
    refine G_iaload dX11_laysLines_62 c13 c14 ?_
    obtain ⟨c15, hw⟩ := wp_ck hw
    obtain ⟨c16, hw⟩ := wp_ck hw
    refine G_iastore dX11_laysLines_63 c15 c16 ?_
    refine G.nmh fun h17 eh17 => ?_
    have hw := wp_bd hw h17 eh17
    refine G_aload_n dX11_laysLines_64 rfl ?_
    obtain ⟨c18, hw⟩ := wp_ck hw
    refine G_getR fl_X11_lineB w_1435 dX11_laysLines_65 c18 ?_
    obtain ⟨a19, ea19, hw⟩ := wp_rq hw
    refine G.sure ea19 ?_
    refine G_bipush (v := (40 : Int32)) dX11_laysLines_68 (by decide) ?_
    refine G_iload_n dX11_laysLines_70 rfl ?_
    refine G_imul dX11_laysLines_71 ?_
    refine G_iload_n dX11_laysLines_72 rfl ?_
    refine G_iadd dX11_laysLines_73 ?_
    refine G_aload_n dX11_laysLines_74 rfl ?_
    refine G_getR fl_X11_lineB w_1435 dX11_laysLines_75 c18 ?_
    obtain ⟨a20, ea20, hw⟩ := wp_rq hw
    refine G.sure ea20 ?_
    refine G_bipush (v := (40 : Int32)) dX11_laysLines_78 (by decide) ?_
    refine G_iload_n dX11_laysLines_80 rfl ?_
    refine G_imul dX11_laysLines_81 ?_
    refine G_iload_n dX11_laysLines_82 rfl ?_
    refine G_iadd dX11_laysLines_83 ?_
    obtain ⟨c21, hw⟩ := wp_ck hw
    obtain ⟨c22, hw⟩ := wp_ck hw
    refine G_iaload dX11_laysLines_84 c21 c22 ?_
    obtain ⟨c23, hw⟩ := wp_ck hw
    obtain ⟨c24, hw⟩ := wp_ck hw
    refine G_iastore dX11_laysLines_85 c23 c24 ?_
    refine G.nmh fun h25 eh25 => ?_
    have hw := wp_bd hw h25 eh25
    refine G_aload_n dX11_laysLines_86 rfl ?_
    obtain ⟨c26, hw⟩ := wp_ck hw
    refine G_getR fl_X11_lineC w_1436 dX11_laysLines_87 c26 ?_
    obtain ⟨a27, ea27, hw⟩ := wp_rq hw
    refine G.sure ea27 ?_
    refine G_bipush (v := (40 : Int32)) dX11_laysLines_90 (by decide) ?_
    refine G_iload_n dX11_laysLines_92 rfl ?_
    refine G_imul dX11_laysLines_93 ?_
    refine G_iload_n dX11_laysLines_94 rfl ?_
    refine G_iadd dX11_laysLines_95 ?_
    refine G_aload_n dX11_laysLines_96 rfl ?_
    refine G_getR fl_X11_lineC w_1436 dX11_laysLines_97 c26 ?_
    obtain ⟨a28, ea28, hw⟩ := wp_rq hw
    refine G.sure ea28 ?_
    refine G_bipush (v := (40 : Int32)) dX11_laysLines_100 (by decide) ?_
    refine G_iload_n dX11_laysLines_102 rfl ?_
    refine G_imul dX11_laysLines_103 ?_
    refine G_iload_n dX11_laysLines_104 rfl ?_
    refine G_iadd dX11_laysLines_105 ?_
    obtain ⟨c29, hw⟩ := wp_ck hw
    obtain ⟨c30, hw⟩ := wp_ck hw
    refine G_iaload dX11_laysLines_106 c29 c30 ?_
    obtain ⟨c31, hw⟩ := wp_ck hw
    obtain ⟨c32, hw⟩ := wp_ck hw
    refine G_iastore dX11_laysLines_107 c31 c32 ?_
    refine G.nmh fun h33 eh33 => ?_
    have hw := wp_bd hw h33 eh33
    refine G_aload_n dX11_laysLines_108 rfl ?_
    obtain ⟨c34, hw⟩ := wp_ck hw
    refine G_getR fl_X11_lineN w_1437 dX11_laysLines_109 c34 ?_
    obtain ⟨a35, ea35, hw⟩ := wp_rq hw
    refine G.sure ea35 ?_
    refine G_bipush (v := (40 : Int32)) dX11_laysLines_112 (by decide) ?_
    refine G_iload_n dX11_laysLines_114 rfl ?_
    refine G_imul dX11_laysLines_115 ?_
    refine G_iload_n dX11_laysLines_116 rfl ?_
    refine G_iadd dX11_laysLines_117 ?_
    refine G_aload_n dX11_laysLines_118 rfl ?_
    refine G_getR fl_X11_lineN w_1437 dX11_laysLines_119 c34 ?_
    obtain ⟨a36, ea36, hw⟩ := wp_rq hw
    refine G.sure ea36 ?_
    refine G_bipush (v := (40 : Int32)) dX11_laysLines_122 (by decide) ?_
    refine G_iload_n dX11_laysLines_124 rfl ?_
    refine G_imul dX11_laysLines_125 ?_
    refine G_iload_n dX11_laysLines_126 rfl ?_
    refine G_iadd dX11_laysLines_127 ?_
    obtain ⟨c37, hw⟩ := wp_ck hw
    obtain ⟨c38, hw⟩ := wp_ck hw
    refine G_iaload dX11_laysLines_128 c37 c38 ?_
    obtain ⟨c39, hw⟩ := wp_ck hw
    obtain ⟨c40, hw⟩ := wp_ck hw
    refine G_iastore dX11_laysLines_129 c39 c40 ?_
    refine G.nmh fun h41 eh41 => ?_
    have hw := wp_bd hw h41 eh41
    obtain ⟨v42, ev42⟩ : ∃ z : Int32, z = l3 + (1 : Int32) := ⟨_, rfl⟩
    have hw := wp_bd hw v42 ev42
    refine G_iinc (v := v42) (lv' := [some (.ref l0), some (.int l1), some (.int l2), some (.int v42)]) dX11_laysLines_130 rfl (by rw [ev42]; rfl) (Nat.le_of_ble_eq_true rfl) rfl ?_
    refine G_goto (tgt := 14) dX11_laysLines_133 rfl ?_
    refine G.less [some (.ref l0), some (.int l1), some (.int l2), some (.int v42)] ⟨rfl, ⟨rfl, ⟨rfl, ⟨rfl, trivial⟩⟩⟩⟩ ?_
    exact hK_14 _ _ _ _ h41 Q hw
theorem f_X11_laysLines_14_ok {Γ : GX} (hs : SF Γ) {N : Nat} : ∀ (n : Nat) (l0 : Nat) (l1 : Int32) (l2 : Int32) (l3 : Int32) (h : PH) (Q : Unit → PH → Prop), wp (f_X11_laysLines_14 N n l0 l1 l2 l3 h) Q → G Γ yX11_laysLines cX11_laysLines 4 none (1, 0, 0) 14 [some (.ref l0), some (.int l1), some (.int l2), some (.int l3)] [] h (0, 0) (q_u Q)
  | 0, _, _, _, _, _, Q, hw => (wp_no hw).elim
  | n + 1, l0, l1, l2, l3, h, Q, hw => f_X11_laysLines_14_bok (N := N) hs (f_X11_laysLines_14_ok (N := N) hs n) l0 l1 l2 l3 h Q hw
set_option maxHeartbeats 4000000 in
set_option maxRecDepth 100000 in
theorem s_X11_laysLines {Γ : GX} (hs : SF Γ) {N : Nat} (l0 : Nat) (l1 : Int32) (l2 : Int32) (h : PH) (Q : Unit → PH → Prop) (hw : wp (f_X11_laysLines N l0 l1 l2 h) Q) : Spec Γ yX11_laysLines cX11_laysLines 4 none (1, 0, 0) [.ref l0, .int l1, .int l2] h (q_u Q) := by
  refine Spec.of (by decide) (Nat.le_of_ble_eq_true rfl) [some (.ref l0), some (.int l1), some (.int l2), none] rfl ?_
  unfold f_X11_laysLines at hw
  refine G_aload_n dX11_laysLines_0 rfl ?_
  obtain ⟨c1, hw⟩ := wp_ck hw
  refine G_getR fl_X11_lines w_1432 dX11_laysLines_1 c1 ?_
  obtain ⟨a2, ea2, hw⟩ := wp_rq hw
  refine G.sure ea2 ?_
  refine G_iload_n dX11_laysLines_4 rfl ?_
  refine G_aload_n dX11_laysLines_5 rfl ?_
  refine G_getR fl_X11_lines w_1432 dX11_laysLines_6 c1 ?_
  obtain ⟨a3, ea3, hw⟩ := wp_rq hw
  refine G.sure ea3 ?_
  refine G_iload_n dX11_laysLines_9 rfl ?_
  obtain ⟨c4, hw⟩ := wp_ck hw
  obtain ⟨c5, hw⟩ := wp_ck hw
  refine G_iaload dX11_laysLines_10 c4 c5 ?_
  obtain ⟨c6, hw⟩ := wp_ck hw
  obtain ⟨c7, hw⟩ := wp_ck hw
  refine G_iastore dX11_laysLines_11 c6 c7 ?_
  refine G.nmh fun h8 eh8 => ?_
  have hw := wp_bd hw h8 eh8
  refine G_iconst (v := (0 : Int32)) dX11_laysLines_12 (by decide) ?_
  refine G_istore_n (lv' := [some (.ref l0), some (.int l1), some (.int l2), some (.int (0 : Int32))]) dX11_laysLines_13 (Nat.le_of_ble_eq_true rfl) rfl ?_
  refine G.less [some (.ref l0), some (.int l1), some (.int l2), some (.int (0 : Int32))] ⟨rfl, ⟨rfl, ⟨rfl, ⟨rfl, trivial⟩⟩⟩⟩ ?_
  exact f_X11_laysLines_14_ok hs N _ _ _ _ h8 Q hw
set_option maxHeartbeats 4000000 in
set_option maxRecDepth 100000 in
theorem f_X11_laysSeen_14_bok {Γ : GX} (hs : SF Γ) {N : Nat} {K_14 : Nat → Int32 → Int32 → Int32 → PH → Option (Unit × PH)} (hK_14 : ∀ (l0 : Nat) (l1 : Int32) (l2 : Int32) (l3 : Int32) (h : PH) (Q : Unit → PH → Prop), wp (K_14 l0 l1 l2 l3 h) Q → G Γ yX11_laysSeen cX11_laysSeen 4 none (1, 0, 0) 14 [some (.ref l0), some (.int l1), some (.int l2), some (.int l3)] [] h (0, 0) (q_u Q)) (l0 : Nat) (l1 : Int32) (l2 : Int32) (l3 : Int32) (h : PH) (Q : Unit → PH → Prop) (hw : wp (f_X11_laysSeen_14_b N K_14 l0 l1 l2 l3 h) Q) : G Γ yX11_laysSeen cX11_laysSeen 4 none (1, 0, 0) 14 [some (.ref l0), some (.int l1), some (.int l2), some (.int l3)] [] h (0, 0) (q_u Q) := by
  unfold f_X11_laysSeen_14_b at hw
  refine G_iload_n dX11_laysSeen_14 rfl ?_
  refine G_bipush (v := (8 : Int32)) dX11_laysSeen_15 (by decide) ?_
  have hw := wp_if hw
  refine G_icmp_ge (tgt := 92) dX11_laysSeen_17 rfl (fun c1 => ?_) (fun c1 => ?_)
  · have hw := hw.1 c1
    exact G_vreturn rfl dX11_laysSeen_92 ⟨rfl, wp_ret hw⟩
  · have hw := hw.2 c1
    refine G_aload_n dX11_laysSeen_20 rfl ?_
    obtain ⟨c2, hw⟩ := wp_ck hw
    refine G_getR fl_X11_seenWho w_1439 dX11_laysSeen_21 c2 ?_
    obtain ⟨a3, ea3, hw⟩ := wp_rq hw
    refine G.sure ea3 ?_
    refine G_bipush (v := (8 : Int32)) dX11_laysSeen_24 (by decide) ?_
    refine G_iload_n dX11_laysSeen_26 rfl ?_
    refine G_imul dX11_laysSeen_27 ?_
    refine G_iload_n dX11_laysSeen_28 rfl ?_
    refine G_iadd dX11_laysSeen_29 ?_
    refine G_aload_n dX11_laysSeen_30 rfl ?_
    refine G_getR fl_X11_seenWho w_1439 dX11_laysSeen_31 c2 ?_
    obtain ⟨a4, ea4, hw⟩ := wp_rq hw
    refine G.sure ea4 ?_
    refine G_bipush (v := (8 : Int32)) dX11_laysSeen_34 (by decide) ?_
    refine G_iload_n dX11_laysSeen_36 rfl ?_
    refine G_imul dX11_laysSeen_37 ?_
    refine G_iload_n dX11_laysSeen_38 rfl ?_
    refine G_iadd dX11_laysSeen_39 ?_
    obtain ⟨c5, hw⟩ := wp_ck hw
    obtain ⟨c6, hw⟩ := wp_ck hw
    refine G_iaload dX11_laysSeen_40 c5 c6 ?_
    obtain ⟨c7, hw⟩ := wp_ck hw
    obtain ⟨c8, hw⟩ := wp_ck hw
    refine G_iastore dX11_laysSeen_41 c7 c8 ?_
    refine G.nmh fun h9 eh9 => ?_
    have hw := wp_bd hw h9 eh9
    refine G_aload_n dX11_laysSeen_42 rfl ?_
    obtain ⟨c10, hw⟩ := wp_ck hw
    refine G_getR fl_X11_seenFlue w_1440 dX11_laysSeen_43 c10 ?_
    obtain ⟨a11, ea11, hw⟩ := wp_rq hw
    refine G.sure ea11 ?_
    refine G_bipush (v := (8 : Int32)) dX11_laysSeen_46 (by decide) ?_
    refine G_iload_n dX11_laysSeen_48 rfl ?_
    refine G_imul dX11_laysSeen_49 ?_
    refine G_iload_n dX11_laysSeen_50 rfl ?_
    refine G_iadd dX11_laysSeen_51 ?_
    refine G_aload_n dX11_laysSeen_52 rfl ?_
    refine G_getR fl_X11_seenFlue w_1440 dX11_laysSeen_53 c10 ?_
    obtain ⟨a12, ea12, hw⟩ := wp_rq hw
    refine G.sure ea12 ?_
    refine G_bipush (v := (8 : Int32)) dX11_laysSeen_56 (by decide) ?_
    refine G_iload_n dX11_laysSeen_58 rfl ?_
    refine G_imul dX11_laysSeen_59 ?_
    refine G_iload_n dX11_laysSeen_60 rfl ?_
    refine G_iadd dX11_laysSeen_61 ?_
    obtain ⟨c13, hw⟩ := wp_ck hw
    obtain ⟨c14, hw⟩ := wp_ck hw
    refine G_iaload dX11_laysSeen_62 c13 c14 ?_
    obtain ⟨c15, hw⟩ := wp_ck hw
    obtain ⟨c16, hw⟩ := wp_ck hw
    refine G_iastore dX11_laysSeen_63 c15 c16 ?_
    refine G.nmh fun h17 eh17 => ?_
    have hw := wp_bd hw h17 eh17
    refine G_aload_n dX11_laysSeen_64 rfl ?_
    obtain ⟨c18, hw⟩ := wp_ck hw
    refine G_getR fl_X11_seenSign w_1441 dX11_laysSeen_65 c18 ?_
    obtain ⟨a19, ea19, hw⟩ := wp_rq hw
    refine G.sure ea19 ?_
    refine G_bipush (v := (8 : Int32)) dX11_laysSeen_68 (by decide) ?_
    refine G_iload_n dX11_laysSeen_70 rfl ?_
    refine G_imul dX11_laysSeen_71 ?_
    refine G_iload_n dX11_laysSeen_72 rfl ?_
    refine G_iadd dX11_laysSeen_73 ?_
    refine G_aload_n dX11_laysSeen_74 rfl ?_
    refine G_getR fl_X11_seenSign w_1441 dX11_laysSeen_75 c18 ?_
    obtain ⟨a20, ea20, hw⟩ := wp_rq hw
    refine G.sure ea20 ?_
    refine G_bipush (v := (8 : Int32)) dX11_laysSeen_78 (by decide) ?_
    refine G_iload_n dX11_laysSeen_80 rfl ?_
    refine G_imul dX11_laysSeen_81 ?_
    refine G_iload_n dX11_laysSeen_82 rfl ?_
    refine G_iadd dX11_laysSeen_83 ?_
    obtain ⟨c21, hw⟩ := wp_ck hw
    obtain ⟨c22, hw⟩ := wp_ck hw
    refine G_iaload dX11_laysSeen_84 c21 c22 ?_
    obtain ⟨c23, hw⟩ := wp_ck hw
    obtain ⟨c24, hw⟩ := wp_ck hw
    refine G_iastore dX11_laysSeen_85 c23 c24 ?_
    refine G.nmh fun h25 eh25 => ?_
    have hw := wp_bd hw h25 eh25
    obtain ⟨v26, ev26⟩ : ∃ z : Int32, z = l3 + (1 : Int32) := ⟨_, rfl⟩
    have hw := wp_bd hw v26 ev26
    refine G_iinc (v := v26) (lv' := [some (.ref l0), some (.int l1), some (.int l2), some (.int v26)]) dX11_laysSeen_86 rfl (by rw [ev26]; rfl) (Nat.le_of_ble_eq_true rfl) rfl ?_
    refine G_goto (tgt := 14) dX11_laysSeen_89 rfl ?_
    refine G.less [some (.ref l0), some (.int l1), some (.int l2), some (.int v26)] ⟨rfl, ⟨rfl, ⟨rfl, ⟨rfl, trivial⟩⟩⟩⟩ ?_
    exact hK_14 _ _ _ _ h25 Q hw
theorem f_X11_laysSeen_14_ok {Γ : GX} (hs : SF Γ) {N : Nat} : ∀ (n : Nat) (l0 : Nat) (l1 : Int32) (l2 : Int32) (l3 : Int32) (h : PH) (Q : Unit → PH → Prop), wp (f_X11_laysSeen_14 N n l0 l1 l2 l3 h) Q → G Γ yX11_laysSeen cX11_laysSeen 4 none (1, 0, 0) 14 [some (.ref l0), some (.int l1), some (.int l2), some (.int l3)] [] h (0, 0) (q_u Q)
  | 0, _, _, _, _, _, Q, hw => (wp_no hw).elim
  | n + 1, l0, l1, l2, l3, h, Q, hw => f_X11_laysSeen_14_bok (N := N) hs (f_X11_laysSeen_14_ok (N := N) hs n) l0 l1 l2 l3 h Q hw
set_option maxHeartbeats 4000000 in
set_option maxRecDepth 100000 in
theorem s_X11_laysSeen {Γ : GX} (hs : SF Γ) {N : Nat} (l0 : Nat) (l1 : Int32) (l2 : Int32) (h : PH) (Q : Unit → PH → Prop) (hw : wp (f_X11_laysSeen N l0 l1 l2 h) Q) : Spec Γ yX11_laysSeen cX11_laysSeen 4 none (1, 0, 0) [.ref l0, .int l1, .int l2] h (q_u Q) := by
  refine Spec.of (by decide) (Nat.le_of_ble_eq_true rfl) [some (.ref l0), some (.int l1), some (.int l2), none] rfl ?_
  unfold f_X11_laysSeen at hw
  refine G_aload_n dX11_laysSeen_0 rfl ?_
  obtain ⟨c1, hw⟩ := wp_ck hw
  refine G_getR fl_X11_seens w_1438 dX11_laysSeen_1 c1 ?_
  obtain ⟨a2, ea2, hw⟩ := wp_rq hw
  refine G.sure ea2 ?_
  refine G_iload_n dX11_laysSeen_4 rfl ?_
  refine G_aload_n dX11_laysSeen_5 rfl ?_
  refine G_getR fl_X11_seens w_1438 dX11_laysSeen_6 c1 ?_
  obtain ⟨a3, ea3, hw⟩ := wp_rq hw
  refine G.sure ea3 ?_
  refine G_iload_n dX11_laysSeen_9 rfl ?_
  obtain ⟨c4, hw⟩ := wp_ck hw
  obtain ⟨c5, hw⟩ := wp_ck hw
  refine G_iaload dX11_laysSeen_10 c4 c5 ?_
  obtain ⟨c6, hw⟩ := wp_ck hw
  obtain ⟨c7, hw⟩ := wp_ck hw
  refine G_iastore dX11_laysSeen_11 c6 c7 ?_
  refine G.nmh fun h8 eh8 => ?_
  have hw := wp_bd hw h8 eh8
  refine G_iconst (v := (0 : Int32)) dX11_laysSeen_12 (by decide) ?_
  refine G_istore_n (lv' := [some (.ref l0), some (.int l1), some (.int l2), some (.int (0 : Int32))]) dX11_laysSeen_13 (Nat.le_of_ble_eq_true rfl) rfl ?_
  refine G.less [some (.ref l0), some (.int l1), some (.int l2), some (.int (0 : Int32))] ⟨rfl, ⟨rfl, ⟨rfl, ⟨rfl, trivial⟩⟩⟩⟩ ?_
  exact f_X11_laysSeen_14_ok hs N _ _ _ _ h8 Q hw
set_option maxHeartbeats 4000000 in
set_option maxRecDepth 100000 in
theorem f_X11_valley_46_bok {Γ : GX} (hs : SF Γ) {N : Nat} {K_46 : Nat → Int32 → PH → Option (Int32 × PH)} (hK_46 : ∀ (l0 : Nat) (l1 : Int32) (h : PH) (Q : Int32 → PH → Prop), wp (K_46 l0 l1 h) Q → G Γ yX11_valley cX11_valley 2 (some .int) (8, 0, 0) 46 [some (.ref l0), some (.int l1)] [] h (0, 0) (q_i Q)) (l0 : Nat) (l1 : Int32) (h : PH) (Q : Int32 → PH → Prop) (hw : wp (f_X11_valley_46_b N K_46 l0 l1 h) Q) : G Γ yX11_valley cX11_valley 2 (some .int) (8, 0, 0) 46 [some (.ref l0), some (.int l1)] [] h (0, 0) (q_i Q) := by
  unfold f_X11_valley_46_b at hw
  refine G_iload_n dX11_valley_46 rfl ?_
  refine G_iconst (v := (4 : Int32)) dX11_valley_47 (by decide) ?_
  have hw := wp_if hw
  refine G_icmp_ge (tgt := 64) dX11_valley_48 rfl (fun c1 => ?_) (fun c1 => ?_)
  · have hw := hw.1 c1
    refine G_iconst (v := (0 : Int32)) dX11_valley_64 (by decide) ?_
    exact G_ireturn rfl dX11_valley_65 ⟨_, rfl, wp_ret hw⟩
  · have hw := hw.2 c1
    refine G_aload_n dX11_valley_51 rfl ?_
    obtain ⟨c2, hw⟩ := wp_ck hw
    refine G_getR fl_X11_isLaid w_1446 dX11_valley_52 c2 ?_
    obtain ⟨a3, ea3, hw⟩ := wp_rq hw
    refine G.sure ea3 ?_
    refine G_iload_n dX11_valley_55 rfl ?_
    refine G_iconst (v := (0 : Int32)) dX11_valley_56 (by decide) ?_
    obtain ⟨c4, hw⟩ := wp_ck hw
    obtain ⟨c5, hw⟩ := wp_ck hw
    refine G_zastore dX11_valley_57 c4 c5 ?_
    refine G.nmh fun h6 eh6 => ?_
    have hw := wp_bd hw h6 eh6
    obtain ⟨v7, ev7⟩ : ∃ z : Int32, z = l1 + (1 : Int32) := ⟨_, rfl⟩
    have hw := wp_bd hw v7 ev7
    refine G_iinc (v := v7) (lv' := [some (.ref l0), some (.int v7)]) dX11_valley_58 rfl (by rw [ev7]; rfl) (Nat.le_of_ble_eq_true rfl) rfl ?_
    refine G_goto (tgt := 46) dX11_valley_61 rfl ?_
    refine G.less [some (.ref l0), some (.int v7)] ⟨rfl, ⟨rfl, trivial⟩⟩ ?_
    exact hK_46 _ _ h6 Q hw
theorem f_X11_valley_46_ok {Γ : GX} (hs : SF Γ) {N : Nat} : ∀ (n : Nat) (l0 : Nat) (l1 : Int32) (h : PH) (Q : Int32 → PH → Prop), wp (f_X11_valley_46 N n l0 l1 h) Q → G Γ yX11_valley cX11_valley 2 (some .int) (8, 0, 0) 46 [some (.ref l0), some (.int l1)] [] h (0, 0) (q_i Q)
  | 0, _, _, _, Q, hw => (wp_no hw).elim
  | n + 1, l0, l1, h, Q, hw => f_X11_valley_46_bok (N := N) hs (f_X11_valley_46_ok (N := N) hs n) l0 l1 h Q hw
set_option maxHeartbeats 4000000 in
set_option maxRecDepth 100000 in
theorem s_X11_valley {Γ : GX} (hs : SF Γ) {N : Nat} (l0 : Nat) (h : PH) (Q : Int32 → PH → Prop) (hw : wp (f_X11_valley N l0 h) Q) : Spec Γ yX11_valley cX11_valley 2 (some .int) (8, 0, 0) [.ref l0] h (q_i Q) := by
  refine Spec.of (by decide) (Nat.le_of_ble_eq_true rfl) [some (.ref l0), none] rfl ?_
  unfold f_X11_valley at hw
  refine G_aload_n dX11_valley_0 rfl ?_
  refine G_iconst (v := (0 : Int32)) dX11_valley_1 (by decide) ?_
  obtain ⟨c1, hw⟩ := wp_ck hw
  refine G_putI fl_X11_thrown w_1393 dX11_valley_2 c1 ?_
  refine G.nmh fun h2 eh2 => ?_
  have hw := wp_bd hw h2 eh2
  refine G_aload_n dX11_valley_5 rfl ?_
  obtain ⟨c5, hw⟩ := wp_ck hw
  refine G_callV (As := []) (s_X11_readsAll hs l0 h2 _ (wp_cl hw)) ca_X11_readsAll w_1608 w_44 (ci := 10) rfl (by decide) w_1606 c5 (Nat.le_of_ble_eq_true rfl) (Nat.le_of_ble_eq_true rfl) rfl (Nat.le_of_ble_eq_true rfl) (Nat.le_of_ble_eq_true rfl) (Nat.le_of_ble_eq_true rfl) dX11_valley_6 rfl (fun v h4 hq => ?_)
  obtain ⟨r3, rfl, hw⟩ := hq
  refine G.cse (cs' := (0, 0)) rfl ?_
  show GZ _ _ _ _ _ _ _ 9 _ (.int r3 :: []) _ _
  have hw := wp_if hw
  refine G_if_ne (tgt := 17) dX11_valley_9 rfl (fun c6 => ?_) (fun c6 => ?_)
  · have hw := hw.2 c6
    refine G_aload_n dX11_valley_17 rfl ?_
    obtain ⟨c9, hw⟩ := wp_ck hw
    refine G_callV (As := []) (s_X11_lays hs l0 h4 _ (wp_cl hw)) ca_X11_lays w_1755 w_72 (ci := 10) rfl (by decide) w_1753 c9 (Nat.le_of_ble_eq_true rfl) (Nat.le_of_ble_eq_true rfl) rfl (Nat.le_of_ble_eq_true rfl) (Nat.le_of_ble_eq_true rfl) (Nat.le_of_ble_eq_true rfl) dX11_valley_18 rfl (fun v h8 hq => ?_)
    obtain ⟨rfl, hw⟩ := hq
    refine G.cse (cs' := (0, 0)) rfl ?_
    show GZ _ _ _ _ _ _ _ 21 _ [] _ _
    refine G_aload_n dX11_valley_21 rfl ?_
    obtain ⟨c12, hw⟩ := wp_ck hw
    refine G_callV (As := []) (s_X11_fresh hs l0 h8 _ (wp_cl hw)) ca_X11_fresh w_1390 w_43 (ci := 10) rfl (by decide) w_1388 c12 (Nat.le_of_ble_eq_true rfl) (Nat.le_of_ble_eq_true rfl) rfl (Nat.le_of_ble_eq_true rfl) (Nat.le_of_ble_eq_true rfl) (Nat.le_of_ble_eq_true rfl) dX11_valley_22 rfl (fun v h11 hq => ?_)
    obtain ⟨rfl, hw⟩ := hq
    refine G.cse (cs' := (0, 0)) rfl ?_
    show GZ _ _ _ _ _ _ _ 25 _ [] _ _
    refine G_aload_n dX11_valley_25 rfl ?_
    obtain ⟨c13, hw⟩ := wp_ck hw
    refine G_getR fl_X11_lines w_1432 dX11_valley_26 c13 ?_
    obtain ⟨a14, ea14, hw⟩ := wp_rq hw
    refine G.sure ea14 ?_
    refine G_iconst (v := (0 : Int32)) dX11_valley_29 (by decide) ?_
    refine G_iconst (v := (0 : Int32)) dX11_valley_30 (by decide) ?_
    obtain ⟨c15, hw⟩ := wp_ck hw
    obtain ⟨c16, hw⟩ := wp_ck hw
    refine G_iastoreK (k := 0) dX11_valley_31 c15 (by decide) rfl c16 ?_
    refine G.nmh fun h17 eh17 => ?_
    have hw := wp_bd hw h17 eh17
    refine G_aload_n dX11_valley_32 rfl ?_
    obtain ⟨c18, hw⟩ := wp_ck hw
    refine G_getR fl_X11_seens w_1438 dX11_valley_33 c18 ?_
    obtain ⟨a19, ea19, hw⟩ := wp_rq hw
    refine G.sure ea19 ?_
    refine G_iconst (v := (0 : Int32)) dX11_valley_36 (by decide) ?_
    refine G_iconst (v := (0 : Int32)) dX11_valley_37 (by decide) ?_
    obtain ⟨c20, hw⟩ := wp_ck hw
    obtain ⟨c21, hw⟩ := wp_ck hw
    refine G_iastoreK (k := 0) dX11_valley_38 c20 (by decide) rfl c21 ?_
    refine G.nmh fun h22 eh22 => ?_
    have hw := wp_bd hw h22 eh22
    refine G_aload_n dX11_valley_39 rfl ?_
    refine G_iconst (v := (0 : Int32)) dX11_valley_40 (by decide) ?_
    obtain ⟨c23, hw⟩ := wp_ck hw
    refine G_putI fl_X11_done w_1447 dX11_valley_41 c23 ?_
    refine G.nmh fun h24 eh24 => ?_
    have hw := wp_bd hw h24 eh24
    refine G_iconst (v := (0 : Int32)) dX11_valley_44 (by decide) ?_
    refine G_istore_n (lv' := [some (.ref l0), some (.int (0 : Int32))]) dX11_valley_45 (Nat.le_of_ble_eq_true rfl) rfl ?_
    refine G.less [some (.ref l0), some (.int (0 : Int32))] ⟨rfl, ⟨rfl, trivial⟩⟩ ?_
    exact f_X11_valley_46_ok hs N _ _ h24 Q hw
  · have hw := hw.1 c6
    refine G_aload_n dX11_valley_12 rfl ?_
    obtain ⟨c25, hw⟩ := wp_ck hw
    refine G_getI fl_X11_wrong w_1402 dX11_valley_13 c25 ?_
    exact G_ireturn rfl dX11_valley_16 ⟨_, rfl, wp_ret hw⟩
set_option maxHeartbeats 4000000 in
set_option maxRecDepth 100000 in
theorem f_X11_day_16_bok {Γ : GX} (hs : SF Γ) {N : Nat} {K_16 : Nat → PH → Option (Int32 × PH)} (hK_16 : ∀ (l0 : Nat) (h : PH) (Q : Int32 → PH → Prop), wp (K_16 l0 h) Q → G Γ yX11_day cX11_day 1 (some .int) (6, 0, 0) 16 [some (.ref l0)] [] h (0, 0) (q_i Q)) (l0 : Nat) (h : PH) (Q : Int32 → PH → Prop) (hw : wp (f_X11_day_16_b N K_16 l0 h) Q) : G Γ yX11_day cX11_day 1 (some .int) (6, 0, 0) 16 [some (.ref l0)] [] h (0, 0) (q_i Q) := by
  unfold f_X11_day_16_b at hw
  refine G_aload_n dX11_day_16 rfl ?_
  obtain ⟨c1, hw⟩ := wp_ck hw
  refine G_getI fl_X11_token w_1399 dX11_day_17 c1 ?_
  have hw := wp_if hw
  refine G_if_eq (tgt := 35) dX11_day_20 rfl (fun c2 => ?_) (fun c2 => ?_)
  · have hw := hw.1 c2
    refine G_aload_n dX11_day_35 rfl ?_
    refine G_iconst (v := (5 : Int32)) dX11_day_36 (by decide) ?_
    refine G_iconst (v := (0 : Int32)) dX11_day_37 (by decide) ?_
    refine G_callV (As := [.int (5 : Int32), .int (0 : Int32)]) (s_X11_laysLines hs l0 (5 : Int32) (0 : Int32) h _ (wp_cl hw)) ca_X11_laysLines w_1778 w_76 (ci := 10) rfl (by decide) w_1776 c1 (Nat.le_of_ble_eq_true rfl) (Nat.le_of_ble_eq_true rfl) rfl (Nat.le_of_ble_eq_true rfl) (Nat.le_of_ble_eq_true rfl) (Nat.le_of_ble_eq_true rfl) dX11_day_38 rfl (fun v h4 hq => ?_)
    obtain ⟨rfl, hw⟩ := hq
    refine G.cse (cs' := (0, 0)) rfl ?_
    show GZ _ _ _ _ _ _ _ 41 _ [] _ _
    refine G_iconst (v := (0 : Int32)) dX11_day_41 (by decide) ?_
    exact G_ireturn rfl dX11_day_42 ⟨_, rfl, wp_ret hw⟩
  · have hw := hw.2 c2
    refine G_aload_n dX11_day_23 rfl ?_
    refine G_callV (As := []) (s_X11_readsLine hs l0 h _ (wp_cl hw)) ca_X11_readsLine w_1766 w_73 (ci := 10) rfl (by decide) w_1764 c1 (Nat.le_of_ble_eq_true rfl) (Nat.le_of_ble_eq_true rfl) rfl (Nat.le_of_ble_eq_true rfl) (Nat.le_of_ble_eq_true rfl) (Nat.le_of_ble_eq_true rfl) dX11_day_24 rfl (fun v h6 hq => ?_)
    obtain ⟨r5, rfl, hw⟩ := hq
    refine G.cse (cs' := (0, 0)) rfl ?_
    show GZ _ _ _ _ _ _ _ 27 _ (.int r5 :: []) _ _
    have hw := wp_if hw
    refine G_if_ne (tgt := 16) dX11_day_27 rfl (fun c7 => ?_) (fun c7 => ?_)
    · have hw := hw.2 c7
      refine G.less [some (.ref l0)] ⟨rfl, trivial⟩ ?_
      exact hK_16 _ h6 Q hw
    · have hw := hw.1 c7
      refine G_aload_n dX11_day_30 rfl ?_
      obtain ⟨c8, hw⟩ := wp_ck hw
      refine G_getI fl_X11_wrong w_1402 dX11_day_31 c8 ?_
      exact G_ireturn rfl dX11_day_34 ⟨_, rfl, wp_ret hw⟩
theorem f_X11_day_16_ok {Γ : GX} (hs : SF Γ) {N : Nat} : ∀ (n : Nat) (l0 : Nat) (h : PH) (Q : Int32 → PH → Prop), wp (f_X11_day_16 N n l0 h) Q → G Γ yX11_day cX11_day 1 (some .int) (6, 0, 0) 16 [some (.ref l0)] [] h (0, 0) (q_i Q)
  | 0, _, _, Q, hw => (wp_no hw).elim
  | n + 1, l0, h, Q, hw => f_X11_day_16_bok (N := N) hs (f_X11_day_16_ok (N := N) hs n) l0 h Q hw
set_option maxHeartbeats 4000000 in
set_option maxRecDepth 100000 in
theorem s_X11_day {Γ : GX} (hs : SF Γ) {N : Nat} (l0 : Nat) (h : PH) (Q : Int32 → PH → Prop) (hw : wp (f_X11_day N l0 h) Q) : Spec Γ yX11_day cX11_day 1 (some .int) (6, 0, 0) [.ref l0] h (q_i Q) := by
  refine Spec.of (by decide) (Nat.le_of_ble_eq_true rfl) [some (.ref l0)] rfl ?_
  unfold f_X11_day at hw
  refine G_aload_n dX11_day_0 rfl ?_
  refine G_iconst (v := (0 : Int32)) dX11_day_1 (by decide) ?_
  obtain ⟨c1, hw⟩ := wp_ck hw
  refine G_putI fl_X11_thrown w_1393 dX11_day_2 c1 ?_
  refine G.nmh fun h2 eh2 => ?_
  have hw := wp_bd hw h2 eh2
  refine G_aload_n dX11_day_5 rfl ?_
  obtain ⟨c3, hw⟩ := wp_ck hw
  refine G_getR fl_X11_lines w_1432 dX11_day_6 c3 ?_
  obtain ⟨a4, ea4, hw⟩ := wp_rq hw
  refine G.sure ea4 ?_
  refine G_iconst (v := (5 : Int32)) dX11_day_9 (by decide) ?_
  refine G_iconst (v := (0 : Int32)) dX11_day_10 (by decide) ?_
  obtain ⟨c5, hw⟩ := wp_ck hw
  obtain ⟨c6, hw⟩ := wp_ck hw
  refine G_iastoreK (k := 5) dX11_day_11 c5 (by decide) rfl c6 ?_
  refine G.nmh fun h7 eh7 => ?_
  have hw := wp_bd hw h7 eh7
  refine G_aload_n dX11_day_12 rfl ?_
  obtain ⟨c10, hw⟩ := wp_ck hw
  refine G_callV (As := []) (s_X11_begins hs l0 h7 _ (wp_cl hw)) ca_X11_begins w_1612 w_45 (ci := 10) rfl (by decide) w_1610 c10 (Nat.le_of_ble_eq_true rfl) (Nat.le_of_ble_eq_true rfl) rfl (Nat.le_of_ble_eq_true rfl) (Nat.le_of_ble_eq_true rfl) (Nat.le_of_ble_eq_true rfl) dX11_day_13 rfl (fun v h9 hq => ?_)
  obtain ⟨rfl, hw⟩ := hq
  refine G.cse (cs' := (0, 0)) rfl ?_
  show GZ _ _ _ _ _ _ _ 16 _ [] _ _
  refine G.less [some (.ref l0)] ⟨rfl, trivial⟩ ?_
  exact f_X11_day_16_ok hs N _ h9 Q hw
set_option maxHeartbeats 4000000 in
set_option maxRecDepth 100000 in
theorem s_X11_isFuel {Γ : GX} (hs : SF Γ) {N : Nat} (l0 : Nat) (l1 : Int32) (h : PH) (Q : Int32 → PH → Prop) (hw : wp (f_X11_isFuel N l0 l1 h) Q) : Spec Γ yX11_isFuel cX11_isFuel 2 (some .boolean) (1, 0, 0) [.ref l0, .int l1] h (q_i Q) := by
  refine Spec.of (by decide) (Nat.le_of_ble_eq_true rfl) [some (.ref l0), some (.int l1)] rfl ?_
  unfold f_X11_isFuel at hw
  refine G_iload_n dX11_isFuel_0 rfl ?_
  have hw := wp_if hw
  refine G_if_lt (tgt := 18) dX11_isFuel_1 rfl (fun c1 => ?_) (fun c1 => ?_)
  · have hw := hw.1 c1
    refine G_iconst (v := (0 : Int32)) dX11_isFuel_18 (by decide) ?_
    exact G_zreturn rfl dX11_isFuel_19 rfl ⟨_, rfl, wp_ret hw⟩
  · have hw := hw.2 c1
    refine G_iload_n dX11_isFuel_4 rfl ?_
    refine G_aload_n dX11_isFuel_5 rfl ?_
    obtain ⟨c2, hw⟩ := wp_ck hw
    refine G_getR fl_X11_valley w_1403 dX11_isFuel_6 c2 ?_
    obtain ⟨a3, ea3, hw⟩ := wp_rq hw
    refine G.sure ea3 ?_
    refine G_iconst (v := (0 : Int32)) dX11_isFuel_9 (by decide) ?_
    obtain ⟨c4, hw⟩ := wp_ck hw
    obtain ⟨c5, hw⟩ := wp_ck hw
    refine G_ialoadK (k := 0) dX11_isFuel_10 c4 (by decide) rfl c5 ?_
    have hw := wp_if hw
    refine G_icmp_ge (tgt := 18) dX11_isFuel_11 rfl (fun c6 => ?_) (fun c6 => ?_)
    · have hw := hw.1 c6
      refine G_iconst (v := (0 : Int32)) dX11_isFuel_18 (by decide) ?_
      exact G_zreturn rfl dX11_isFuel_19 rfl ⟨_, rfl, wp_ret hw⟩
    · have hw := hw.2 c6
      refine G_iconst (v := (1 : Int32)) dX11_isFuel_14 (by decide) ?_
      refine G_goto (tgt := 19) dX11_isFuel_15 rfl ?_
      exact G_zreturn rfl dX11_isFuel_19 rfl ⟨_, rfl, wp_ret hw⟩
set_option maxHeartbeats 4000000 in
set_option maxRecDepth 100000 in
theorem s_X11_isFlue {Γ : GX} (hs : SF Γ) {N : Nat} (l0 : Nat) (l1 : Int32) (h : PH) (Q : Int32 → PH → Prop) (hw : wp (f_X11_isFlue N l0 l1 h) Q) : Spec Γ yX11_isFlue cX11_isFlue 2 (some .boolean) (1, 0, 0) [.ref l0, .int l1] h (q_i Q) := by
  refine Spec.of (by decide) (Nat.le_of_ble_eq_true rfl) [some (.ref l0), some (.int l1)] rfl ?_
  unfold f_X11_isFlue at hw
  refine G_iload_n dX11_isFlue_0 rfl ?_
  have hw := wp_if hw
  refine G_if_lt (tgt := 18) dX11_isFlue_1 rfl (fun c1 => ?_) (fun c1 => ?_)
  · have hw := hw.1 c1
    refine G_iconst (v := (0 : Int32)) dX11_isFlue_18 (by decide) ?_
    exact G_zreturn rfl dX11_isFlue_19 rfl ⟨_, rfl, wp_ret hw⟩
  · have hw := hw.2 c1
    refine G_iload_n dX11_isFlue_4 rfl ?_
    refine G_aload_n dX11_isFlue_5 rfl ?_
    obtain ⟨c2, hw⟩ := wp_ck hw
    refine G_getR fl_X11_valley w_1403 dX11_isFlue_6 c2 ?_
    obtain ⟨a3, ea3, hw⟩ := wp_rq hw
    refine G.sure ea3 ?_
    refine G_iconst (v := (1 : Int32)) dX11_isFlue_9 (by decide) ?_
    obtain ⟨c4, hw⟩ := wp_ck hw
    obtain ⟨c5, hw⟩ := wp_ck hw
    refine G_ialoadK (k := 1) dX11_isFlue_10 c4 (by decide) rfl c5 ?_
    have hw := wp_if hw
    refine G_icmp_ge (tgt := 18) dX11_isFlue_11 rfl (fun c6 => ?_) (fun c6 => ?_)
    · have hw := hw.1 c6
      refine G_iconst (v := (0 : Int32)) dX11_isFlue_18 (by decide) ?_
      exact G_zreturn rfl dX11_isFlue_19 rfl ⟨_, rfl, wp_ret hw⟩
    · have hw := hw.2 c6
      refine G_iconst (v := (1 : Int32)) dX11_isFlue_14 (by decide) ?_
      refine G_goto (tgt := 19) dX11_isFlue_15 rfl ?_
      exact G_zreturn rfl dX11_isFlue_19 rfl ⟨_, rfl, wp_ret hw⟩
set_option maxHeartbeats 4000000 in
set_option maxRecDepth 100000 in
theorem s_X11_isHouse {Γ : GX} (hs : SF Γ) {N : Nat} (l0 : Nat) (l1 : Int32) (h : PH) (Q : Int32 → PH → Prop) (hw : wp (f_X11_isHouse N l0 l1 h) Q) : Spec Γ yX11_isHouse cX11_isHouse 2 (some .boolean) (1, 0, 0) [.ref l0, .int l1] h (q_i Q) := by
  refine Spec.of (by decide) (Nat.le_of_ble_eq_true rfl) [some (.ref l0), some (.int l1)] rfl ?_
  unfold f_X11_isHouse at hw
  refine G_iload_n dX11_isHouse_0 rfl ?_
  have hw := wp_if hw
  refine G_if_lt (tgt := 18) dX11_isHouse_1 rfl (fun c1 => ?_) (fun c1 => ?_)
  · have hw := hw.1 c1
    refine G_iconst (v := (0 : Int32)) dX11_isHouse_18 (by decide) ?_
    exact G_zreturn rfl dX11_isHouse_19 rfl ⟨_, rfl, wp_ret hw⟩
  · have hw := hw.2 c1
    refine G_iload_n dX11_isHouse_4 rfl ?_
    refine G_aload_n dX11_isHouse_5 rfl ?_
    obtain ⟨c2, hw⟩ := wp_ck hw
    refine G_getR fl_X11_valley w_1403 dX11_isHouse_6 c2 ?_
    obtain ⟨a3, ea3, hw⟩ := wp_rq hw
    refine G.sure ea3 ?_
    refine G_iconst (v := (2 : Int32)) dX11_isHouse_9 (by decide) ?_
    obtain ⟨c4, hw⟩ := wp_ck hw
    obtain ⟨c5, hw⟩ := wp_ck hw
    refine G_ialoadK (k := 2) dX11_isHouse_10 c4 (by decide) rfl c5 ?_
    have hw := wp_if hw
    refine G_icmp_ge (tgt := 18) dX11_isHouse_11 rfl (fun c6 => ?_) (fun c6 => ?_)
    · have hw := hw.1 c6
      refine G_iconst (v := (0 : Int32)) dX11_isHouse_18 (by decide) ?_
      exact G_zreturn rfl dX11_isHouse_19 rfl ⟨_, rfl, wp_ret hw⟩
    · have hw := hw.2 c6
      refine G_iconst (v := (1 : Int32)) dX11_isHouse_14 (by decide) ?_
      refine G_goto (tgt := 19) dX11_isHouse_15 rfl ?_
      exact G_zreturn rfl dX11_isHouse_19 rfl ⟨_, rfl, wp_ret hw⟩
set_option maxHeartbeats 4000000 in
set_option maxRecDepth 100000 in
theorem s_X11_isTold {Γ : GX} (hs : SF Γ) {N : Nat} (l0 : Nat) (l1 : Int32) (h : PH) (Q : Int32 → PH → Prop) (hw : wp (f_X11_isTold N l0 l1 h) Q) : Spec Γ yX11_isTold cX11_isTold 2 (some .boolean) (1, 0, 0) [.ref l0, .int l1] h (q_i Q) := by
  refine Spec.of (by decide) (Nat.le_of_ble_eq_true rfl) [some (.ref l0), some (.int l1)] rfl ?_
  unfold f_X11_isTold at hw
  refine G_iload_n dX11_isTold_0 rfl ?_
  have hw := wp_if hw
  refine G_if_lt (tgt := 18) dX11_isTold_1 rfl (fun c1 => ?_) (fun c1 => ?_)
  · have hw := hw.1 c1
    refine G_iconst (v := (0 : Int32)) dX11_isTold_18 (by decide) ?_
    exact G_zreturn rfl dX11_isTold_19 rfl ⟨_, rfl, wp_ret hw⟩
  · have hw := hw.2 c1
    refine G_iload_n dX11_isTold_4 rfl ?_
    refine G_aload_n dX11_isTold_5 rfl ?_
    obtain ⟨c2, hw⟩ := wp_ck hw
    refine G_getR fl_X11_valley w_1403 dX11_isTold_6 c2 ?_
    obtain ⟨a3, ea3, hw⟩ := wp_rq hw
    refine G.sure ea3 ?_
    refine G_iconst (v := (3 : Int32)) dX11_isTold_9 (by decide) ?_
    obtain ⟨c4, hw⟩ := wp_ck hw
    obtain ⟨c5, hw⟩ := wp_ck hw
    refine G_ialoadK (k := 3) dX11_isTold_10 c4 (by decide) rfl c5 ?_
    have hw := wp_if hw
    refine G_icmp_ge (tgt := 18) dX11_isTold_11 rfl (fun c6 => ?_) (fun c6 => ?_)
    · have hw := hw.1 c6
      refine G_iconst (v := (0 : Int32)) dX11_isTold_18 (by decide) ?_
      exact G_zreturn rfl dX11_isTold_19 rfl ⟨_, rfl, wp_ret hw⟩
    · have hw := hw.2 c6
      refine G_iconst (v := (1 : Int32)) dX11_isTold_14 (by decide) ?_
      refine G_goto (tgt := 19) dX11_isTold_15 rfl ?_
      exact G_zreturn rfl dX11_isTold_19 rfl ⟨_, rfl, wp_ret hw⟩
set_option maxHeartbeats 4000000 in
set_option maxRecDepth 100000 in
theorem s_X11_windIn {Γ : GX} (hs : SF Γ) {N : Nat} (l0 : Nat) (l1 : Int32) (h : PH) (Q : Int32 → PH → Prop) (hw : wp (f_X11_windIn N l0 l1 h) Q) : Spec Γ yX11_windIn cX11_windIn 2 (some .int) (1, 0, 0) [.ref l0, .int l1] h (q_i Q) := by
  refine Spec.of (by decide) (Nat.le_of_ble_eq_true rfl) [some (.ref l0), some (.int l1)] rfl ?_
  unfold f_X11_windIn at hw
  refine G_aload_n dX11_windIn_0 rfl ?_
  obtain ⟨c1, hw⟩ := wp_ck hw
  refine G_getR fl_X11_valley w_1403 dX11_windIn_1 c1 ?_
  obtain ⟨a2, ea2, hw⟩ := wp_rq hw
  refine G.sure ea2 ?_
  refine G_iconst (v := (5 : Int32)) dX11_windIn_4 (by decide) ?_
  obtain ⟨c3, hw⟩ := wp_ck hw
  obtain ⟨c4, hw⟩ := wp_ck hw
  refine G_ialoadK (k := 5) dX11_windIn_5 c3 (by decide) rfl c4 ?_
  have hw := wp_if hw
  refine G_if_ne (tgt := 13) dX11_windIn_6 rfl (fun c5 => ?_) (fun c5 => ?_)
  · have hw := hw.2 c5
    refine G_aload_n dX11_windIn_13 rfl ?_
    refine G_getR fl_X11_wind w_1412 dX11_windIn_14 c1 ?_
    obtain ⟨a6, ea6, hw⟩ := wp_rq hw
    refine G.sure ea6 ?_
    refine G_iload_n dX11_windIn_17 rfl ?_
    refine G_aload_n dX11_windIn_18 rfl ?_
    refine G_getR fl_X11_valley w_1403 dX11_windIn_19 c1 ?_
    obtain ⟨a7, ea7, hw⟩ := wp_rq hw
    refine G.sure ea7 ?_
    refine G_iconst (v := (5 : Int32)) dX11_windIn_22 (by decide) ?_
    obtain ⟨c8, hw⟩ := wp_ck hw
    obtain ⟨c9, hw⟩ := wp_ck hw
    refine G_ialoadK (k := 5) dX11_windIn_23 c8 (by decide) rfl c9 ?_
    obtain ⟨c10, hw⟩ := wp_ck hw
    refine G_irem dX11_windIn_24 c10 ?_
    obtain ⟨c11, hw⟩ := wp_ck hw
    obtain ⟨c12, hw⟩ := wp_ck hw
    refine G_iaload dX11_windIn_25 c11 c12 ?_
    exact G_ireturn rfl dX11_windIn_26 ⟨_, rfl, wp_ret hw⟩
  · have hw := hw.1 c5
    refine G_iconst (v := (0 : Int32)) dX11_windIn_9 (by decide) ?_
    refine G_goto (tgt := 26) dX11_windIn_10 rfl ?_
    exact G_ireturn rfl dX11_windIn_26 ⟨_, rfl, wp_ret hw⟩
set_option maxHeartbeats 4000000 in
set_option maxRecDepth 100000 in
theorem f_X11_givesIn_95_ok {Γ : GX} (hs : SF Γ) {N : Nat} (l5 : Int32) (h : PH) (Q : Int32 → PH → Prop) (hw : wp (f_X11_givesIn_95 N l5 h) Q) : G Γ yX11_givesIn cX11_givesIn 6 (some .int) (4, 0, 0) 95 [none, none, none, none, none, some (.int l5)] [] h (0, 0) (q_i Q) := by
  unfold f_X11_givesIn_95 at hw
  refine G_iload dX11_givesIn_95 rfl ?_
  refine G_iconst (v := (0 : Int32)) dX11_givesIn_97 (by decide) ?_
  refine G_sipush (v := (999 : Int32)) dX11_givesIn_98 (by decide) ?_
  refine G_callS (As := [.int l5, .int (0 : Int32), .int (999 : Int32)]) (s_X11_between hs l5 (0 : Int32) (999 : Int32) h _ (wp_cl hw)) ca_X11_between w_1833 w_1832 (Nat.le_of_ble_eq_true rfl) (Nat.le_of_ble_eq_true rfl) rfl (Nat.le_of_ble_eq_true rfl) (Nat.le_of_ble_eq_true rfl) (Nat.le_of_ble_eq_true rfl) dX11_givesIn_101 rfl (fun v h2 hq => ?_)
  obtain ⟨r1, rfl, hw⟩ := hq
  refine G.cse (cs' := (0, 0)) rfl ?_
  show GZ _ _ _ _ _ _ _ 104 _ (.int r1 :: []) _ _
  exact G_ireturn rfl dX11_givesIn_104 ⟨_, rfl, wp_ret hw⟩
set_option maxHeartbeats 4000000 in
set_option maxRecDepth 100000 in
theorem f_X11_givesIn_21_ok {Γ : GX} (hs : SF Γ) {N : Nat} (s0 : Int32) (l0 : Nat) (l1 : Int32) (l2 : Int32) (l3 : Int32) (l4 : Int32) (h : PH) (Q : Int32 → PH → Prop) (hw : wp (f_X11_givesIn_21 N s0 l0 l1 l2 l3 l4 h) Q) : G Γ yX11_givesIn cX11_givesIn 6 (some .int) (4, 0, 0) 21 [some (.ref l0), some (.int l1), some (.int l2), some (.int l3), some (.int l4), none] [.int s0] h (0, 0) (q_i Q) := by
  unfold f_X11_givesIn_21 at hw
  refine G_istore (lv' := [some (.ref l0), some (.int l1), some (.int l2), some (.int l3), some (.int l4), some (.int s0)]) dX11_givesIn_21 (Nat.le_of_ble_eq_true rfl) rfl ?_
  refine G_aload_n dX11_givesIn_23 rfl ?_
  obtain ⟨c1, hw⟩ := wp_ck hw
  refine G_getR fl_X11_lineTo w_1414 dX11_givesIn_24 c1 ?_
  obtain ⟨a2, ea2, hw⟩ := wp_rq hw
  refine G.sure ea2 ?_
  refine G_iconst (v := (0 : Int32)) dX11_givesIn_27 (by decide) ?_
  obtain ⟨c3, hw⟩ := wp_ck hw
  obtain ⟨c4, hw⟩ := wp_ck hw
  refine G_ialoadK (k := 0) dX11_givesIn_28 c3 (by decide) rfl c4 ?_
  refine G_aload_n dX11_givesIn_29 rfl ?_
  refine G_getR fl_X11_lineFrom w_1413 dX11_givesIn_30 c1 ?_
  obtain ⟨a5, ea5, hw⟩ := wp_rq hw
  refine G.sure ea5 ?_
  refine G_iconst (v := (0 : Int32)) dX11_givesIn_33 (by decide) ?_
  obtain ⟨c6, hw⟩ := wp_ck hw
  obtain ⟨c7, hw⟩ := wp_ck hw
  refine G_ialoadK (k := 0) dX11_givesIn_34 c6 (by decide) rfl c7 ?_
  have hw := wp_if hw
  refine G_icmp_le (tgt := 95) dX11_givesIn_35 rfl (fun c8 => ?_) (fun c8 => ?_)
  · have hw := hw.1 c8
    refine G.less [none, none, none, none, none, some (.int s0)] ⟨rfl, trivial⟩ ?_
    exact f_X11_givesIn_95_ok hs _ h Q hw
  · have hw := hw.2 c8
    refine G_aload_n dX11_givesIn_38 rfl ?_
    refine G_getR fl_X11_valueOf w_1429 dX11_givesIn_39 c1 ?_
    obtain ⟨a9, ea9, hw⟩ := wp_rq hw
    refine G.sure ea9 ?_
    refine G_iconst (v := (1 : Int32)) dX11_givesIn_42 (by decide) ?_
    refine G_aload_n dX11_givesIn_43 rfl ?_
    refine G_getR fl_X11_fuelDark w_1405 dX11_givesIn_44 c1 ?_
    obtain ⟨a10, ea10, hw⟩ := wp_rq hw
    refine G.sure ea10 ?_
    refine G_iload_n dX11_givesIn_47 rfl ?_
    obtain ⟨c11, hw⟩ := wp_ck hw
    obtain ⟨c12, hw⟩ := wp_ck hw
    refine G_iaload dX11_givesIn_48 c11 c12 ?_
    obtain ⟨c13, hw⟩ := wp_ck hw
    obtain ⟨c14, hw⟩ := wp_ck hw
    refine G_iastoreK (k := 1) dX11_givesIn_49 c13 (by decide) rfl c14 ?_
    refine G.nmh fun h15 eh15 => ?_
    have hw := wp_bd hw h15 eh15
    refine G_aload_n dX11_givesIn_50 rfl ?_
    obtain ⟨c16, hw⟩ := wp_ck hw
    refine G_getR fl_X11_valueOf w_1429 dX11_givesIn_51 c16 ?_
    obtain ⟨a17, ea17, hw⟩ := wp_rq hw
    refine G.sure ea17 ?_
    refine G_iconst (v := (2 : Int32)) dX11_givesIn_54 (by decide) ?_
    refine G_aload_n dX11_givesIn_55 rfl ?_
    refine G_getR fl_X11_fuelSweet w_1406 dX11_givesIn_56 c16 ?_
    obtain ⟨a18, ea18, hw⟩ := wp_rq hw
    refine G.sure ea18 ?_
    refine G_iload_n dX11_givesIn_59 rfl ?_
    obtain ⟨c19, hw⟩ := wp_ck hw
    obtain ⟨c20, hw⟩ := wp_ck hw
    refine G_iaload dX11_givesIn_60 c19 c20 ?_
    obtain ⟨c21, hw⟩ := wp_ck hw
    obtain ⟨c22, hw⟩ := wp_ck hw
    refine G_iastoreK (k := 2) dX11_givesIn_61 c21 (by decide) rfl c22 ?_
    refine G.nmh fun h23 eh23 => ?_
    have hw := wp_bd hw h23 eh23
    refine G_aload_n dX11_givesIn_62 rfl ?_
    obtain ⟨c24, hw⟩ := wp_ck hw
    refine G_getR fl_X11_valueOf w_1429 dX11_givesIn_63 c24 ?_
    obtain ⟨a25, ea25, hw⟩ := wp_rq hw
    refine G.sure ea25 ?_
    refine G_iconst (v := (3 : Int32)) dX11_givesIn_66 (by decide) ?_
    refine G_aload_n dX11_givesIn_67 rfl ?_
    refine G_iload_n dX11_givesIn_68 rfl ?_
    refine G_callV (As := [.int l3]) (s_X11_windIn hs l0 l3 h23 _ (wp_cl hw)) ca_X11_windIn w_1814 w_83 (ci := 10) rfl (by decide) w_1812 c24 (Nat.le_of_ble_eq_true rfl) (Nat.le_of_ble_eq_true rfl) rfl (Nat.le_of_ble_eq_true rfl) (Nat.le_of_ble_eq_true rfl) (Nat.le_of_ble_eq_true rfl) dX11_givesIn_69 rfl (fun v h27 hq => ?_)
    obtain ⟨r26, rfl, hw⟩ := hq
    refine G.cse (cs' := (0, 0)) rfl ?_
    show GZ _ _ _ _ _ _ _ 72 _ (.int r26 :: [.int (3 : Int32), .ref a25]) _ _
    obtain ⟨c28, hw⟩ := wp_ck hw
    obtain ⟨c29, hw⟩ := wp_ck hw
    refine G_iastoreK (k := 3) dX11_givesIn_72 c28 (by decide) rfl c29 ?_
    refine G.nmh fun h30 eh30 => ?_
    have hw := wp_bd hw h30 eh30
    refine G_aload_n dX11_givesIn_73 rfl ?_
    obtain ⟨c31, hw⟩ := wp_ck hw
    refine G_getR fl_X11_valueOf w_1429 dX11_givesIn_74 c31 ?_
    obtain ⟨a32, ea32, hw⟩ := wp_rq hw
    refine G.sure ea32 ?_
    refine G_iconst (v := (4 : Int32)) dX11_givesIn_77 (by decide) ?_
    refine G_iload_n dX11_givesIn_78 rfl ?_
    obtain ⟨c33, hw⟩ := wp_ck hw
    obtain ⟨c34, hw⟩ := wp_ck hw
    refine G_iastoreK (k := 4) dX11_givesIn_79 c33 (by decide) rfl c34 ?_
    refine G.nmh fun h35 eh35 => ?_
    have hw := wp_bd hw h35 eh35
    refine G_aload_n dX11_givesIn_80 rfl ?_
    obtain ⟨c36, hw⟩ := wp_ck hw
    refine G_getR fl_X11_valueOf w_1429 dX11_givesIn_81 c36 ?_
    obtain ⟨a37, ea37, hw⟩ := wp_rq hw
    refine G.sure ea37 ?_
    refine G_iconst (v := (5 : Int32)) dX11_givesIn_84 (by decide) ?_
    refine G_iload dX11_givesIn_85 rfl ?_
    obtain ⟨c38, hw⟩ := wp_ck hw
    obtain ⟨c39, hw⟩ := wp_ck hw
    refine G_iastoreK (k := 5) dX11_givesIn_87 c38 (by decide) rfl c39 ?_
    refine G.nmh fun h40 eh40 => ?_
    have hw := wp_bd hw h40 eh40
    refine G_aload_n dX11_givesIn_88 rfl ?_
    refine G_iconst (v := (0 : Int32)) dX11_givesIn_89 (by decide) ?_
    obtain ⟨c43, hw⟩ := wp_ck hw
    refine G_callV (As := [.int (0 : Int32)]) (s_X11_worked hs l0 (0 : Int32) h40 _ (wp_cl hw)) ca_X11_worked w_1818 w_84 (ci := 10) rfl (by decide) w_1816 c43 (Nat.le_of_ble_eq_true rfl) (Nat.le_of_ble_eq_true rfl) rfl (Nat.le_of_ble_eq_true rfl) (Nat.le_of_ble_eq_true rfl) (Nat.le_of_ble_eq_true rfl) dX11_givesIn_90 rfl (fun v h42 hq => ?_)
    obtain ⟨r41, rfl, hw⟩ := hq
    refine G.cse (cs' := (0, 0)) rfl ?_
    show GZ _ _ _ _ _ _ _ 93 _ (.int r41 :: []) _ _
    refine G_istore (lv' := [some (.ref l0), some (.int l1), some (.int l2), some (.int l3), some (.int l4), some (.int r41)]) dX11_givesIn_93 (Nat.le_of_ble_eq_true rfl) rfl ?_
    refine G.less [none, none, none, none, none, some (.int r41)] ⟨rfl, trivial⟩ ?_
    exact f_X11_givesIn_95_ok hs _ h42 Q hw
set_option maxHeartbeats 4000000 in
set_option maxRecDepth 100000 in
theorem s_X11_givesIn {Γ : GX} (hs : SF Γ) {N : Nat} (l0 : Nat) (l1 : Int32) (l2 : Int32) (l3 : Int32) (l4 : Int32) (h : PH) (Q : Int32 → PH → Prop) (hw : wp (f_X11_givesIn N l0 l1 l2 l3 l4 h) Q) : Spec Γ yX11_givesIn cX11_givesIn 6 (some .int) (4, 0, 0) [.ref l0, .int l1, .int l2, .int l3, .int l4] h (q_i Q) := by
  refine Spec.of (by decide) (Nat.le_of_ble_eq_true rfl) [some (.ref l0), some (.int l1), some (.int l2), some (.int l3), some (.int l4), none] rfl ?_
  unfold f_X11_givesIn at hw
  refine G_iload dX11_givesIn_0 rfl ?_
  refine G_iconst (v := (1 : Int32)) dX11_givesIn_2 (by decide) ?_
  have hw := wp_if hw
  refine G_icmp_ne (tgt := 15) dX11_givesIn_3 rfl (fun c1 => ?_) (fun c1 => ?_)
  · have hw := hw.2 c1
    refine G_aload_n dX11_givesIn_15 rfl ?_
    obtain ⟨c2, hw⟩ := wp_ck hw
    refine G_getR fl_X11_fuelDark w_1405 dX11_givesIn_16 c2 ?_
    obtain ⟨a3, ea3, hw⟩ := wp_rq hw
    refine G.sure ea3 ?_
    refine G_iload_n dX11_givesIn_19 rfl ?_
    obtain ⟨c4, hw⟩ := wp_ck hw
    obtain ⟨c5, hw⟩ := wp_ck hw
    refine G_iaload dX11_givesIn_20 c4 c5 ?_
    refine G.less [some (.ref l0), some (.int l1), some (.int l2), some (.int l3), some (.int l4), none] ⟨rfl, ⟨rfl, ⟨rfl, ⟨rfl, ⟨rfl, trivial⟩⟩⟩⟩⟩ ?_
    exact f_X11_givesIn_21_ok hs _ _ _ _ _ _ h Q hw
  · have hw := hw.1 c1
    refine G_aload_n dX11_givesIn_6 rfl ?_
    obtain ⟨c6, hw⟩ := wp_ck hw
    refine G_getR fl_X11_fuelSweet w_1406 dX11_givesIn_7 c6 ?_
    obtain ⟨a7, ea7, hw⟩ := wp_rq hw
    refine G.sure ea7 ?_
    refine G_iload_n dX11_givesIn_10 rfl ?_
    obtain ⟨c8, hw⟩ := wp_ck hw
    obtain ⟨c9, hw⟩ := wp_ck hw
    refine G_iaload dX11_givesIn_11 c8 c9 ?_
    refine G_goto (tgt := 21) dX11_givesIn_12 rfl ?_
    refine G.less [some (.ref l0), some (.int l1), some (.int l2), some (.int l3), some (.int l4), none] ⟨rfl, ⟨rfl, ⟨rfl, ⟨rfl, ⟨rfl, trivial⟩⟩⟩⟩⟩ ?_
    exact f_X11_givesIn_21_ok hs _ _ _ _ _ _ h Q hw
set_option maxHeartbeats 4000000 in
set_option maxRecDepth 100000 in
theorem f_X11_sootBy_53_ok {Γ : GX} (hs : SF Γ) {N : Nat} (l3 : Int32) (h : PH) (Q : Int32 → PH → Prop) (hw : wp (f_X11_sootBy_53 N l3 h) Q) : G Γ yX11_sootBy cX11_sootBy 4 (some .int) (4, 0, 0) 53 [none, none, none, some (.int l3)] [] h (0, 0) (q_i Q) := by
  unfold f_X11_sootBy_53 at hw
  refine G_iload_n dX11_sootBy_53 rfl ?_
  refine G_iconst (v := (0 : Int32)) dX11_sootBy_54 (by decide) ?_
  refine G_sipush (v := (999 : Int32)) dX11_sootBy_55 (by decide) ?_
  refine G_callS (As := [.int l3, .int (0 : Int32), .int (999 : Int32)]) (s_X11_between hs l3 (0 : Int32) (999 : Int32) h _ (wp_cl hw)) ca_X11_between w_1833 w_1832 (Nat.le_of_ble_eq_true rfl) (Nat.le_of_ble_eq_true rfl) rfl (Nat.le_of_ble_eq_true rfl) (Nat.le_of_ble_eq_true rfl) (Nat.le_of_ble_eq_true rfl) dX11_sootBy_58 rfl (fun v h2 hq => ?_)
  obtain ⟨r1, rfl, hw⟩ := hq
  refine G.cse (cs' := (0, 0)) rfl ?_
  show GZ _ _ _ _ _ _ _ 61 _ (.int r1 :: []) _ _
  exact G_ireturn rfl dX11_sootBy_61 ⟨_, rfl, wp_ret hw⟩
set_option maxHeartbeats 4000000 in
set_option maxRecDepth 100000 in
theorem s_X11_sootBy {Γ : GX} (hs : SF Γ) {N : Nat} (l0 : Nat) (l1 : Int32) (l2 : Int32) (h : PH) (Q : Int32 → PH → Prop) (hw : wp (f_X11_sootBy N l0 l1 l2 h) Q) : Spec Γ yX11_sootBy cX11_sootBy 4 (some .int) (4, 0, 0) [.ref l0, .int l1, .int l2] h (q_i Q) := by
  refine Spec.of (by decide) (Nat.le_of_ble_eq_true rfl) [some (.ref l0), some (.int l1), some (.int l2), none] rfl ?_
  unfold f_X11_sootBy at hw
  refine G_iload_n dX11_sootBy_0 rfl ?_
  refine G_istore_n (lv' := [some (.ref l0), some (.int l1), some (.int l2), some (.int l1)]) dX11_sootBy_1 (Nat.le_of_ble_eq_true rfl) rfl ?_
  refine G_aload_n dX11_sootBy_2 rfl ?_
  obtain ⟨c1, hw⟩ := wp_ck hw
  refine G_getR fl_X11_lineTo w_1414 dX11_sootBy_3 c1 ?_
  obtain ⟨a2, ea2, hw⟩ := wp_rq hw
  refine G.sure ea2 ?_
  refine G_iconst (v := (1 : Int32)) dX11_sootBy_6 (by decide) ?_
  obtain ⟨c3, hw⟩ := wp_ck hw
  obtain ⟨c4, hw⟩ := wp_ck hw
  refine G_ialoadK (k := 1) dX11_sootBy_7 c3 (by decide) rfl c4 ?_
  refine G_aload_n dX11_sootBy_8 rfl ?_
  refine G_getR fl_X11_lineFrom w_1413 dX11_sootBy_9 c1 ?_
  obtain ⟨a5, ea5, hw⟩ := wp_rq hw
  refine G.sure ea5 ?_
  refine G_iconst (v := (1 : Int32)) dX11_sootBy_12 (by decide) ?_
  obtain ⟨c6, hw⟩ := wp_ck hw
  obtain ⟨c7, hw⟩ := wp_ck hw
  refine G_ialoadK (k := 1) dX11_sootBy_13 c6 (by decide) rfl c7 ?_
  have hw := wp_if hw
  refine G_icmp_le (tgt := 53) dX11_sootBy_14 rfl (fun c8 => ?_) (fun c8 => ?_)
  · have hw := hw.1 c8
    refine G.less [none, none, none, some (.int l1)] ⟨rfl, trivial⟩ ?_
    exact f_X11_sootBy_53_ok hs _ h Q hw
  · have hw := hw.2 c8
    refine G_aload_n dX11_sootBy_17 rfl ?_
    refine G_getR fl_X11_valueOf w_1429 dX11_sootBy_18 c1 ?_
    obtain ⟨a9, ea9, hw⟩ := wp_rq hw
    refine G.sure ea9 ?_
    refine G_iconst (v := (1 : Int32)) dX11_sootBy_21 (by decide) ?_
    refine G_iload_n dX11_sootBy_22 rfl ?_
    obtain ⟨c10, hw⟩ := wp_ck hw
    obtain ⟨c11, hw⟩ := wp_ck hw
    refine G_iastoreK (k := 1) dX11_sootBy_23 c10 (by decide) rfl c11 ?_
    refine G.nmh fun h12 eh12 => ?_
    have hw := wp_bd hw h12 eh12
    refine G_aload_n dX11_sootBy_24 rfl ?_
    obtain ⟨c13, hw⟩ := wp_ck hw
    refine G_getR fl_X11_valueOf w_1429 dX11_sootBy_25 c13 ?_
    obtain ⟨a14, ea14, hw⟩ := wp_rq hw
    refine G.sure ea14 ?_
    refine G_iconst (v := (2 : Int32)) dX11_sootBy_28 (by decide) ?_
    refine G_iload_n dX11_sootBy_29 rfl ?_
    obtain ⟨c15, hw⟩ := wp_ck hw
    obtain ⟨c16, hw⟩ := wp_ck hw
    refine G_iastoreK (k := 2) dX11_sootBy_30 c15 (by decide) rfl c16 ?_
    refine G.nmh fun h17 eh17 => ?_
    have hw := wp_bd hw h17 eh17
    refine G_aload_n dX11_sootBy_31 rfl ?_
    obtain ⟨c18, hw⟩ := wp_ck hw
    refine G_getR fl_X11_valueOf w_1429 dX11_sootBy_32 c18 ?_
    obtain ⟨a19, ea19, hw⟩ := wp_rq hw
    refine G.sure ea19 ?_
    refine G_iconst (v := (3 : Int32)) dX11_sootBy_35 (by decide) ?_
    refine G_aload_n dX11_sootBy_36 rfl ?_
    refine G_aload_n dX11_sootBy_37 rfl ?_
    refine G_getR fl_X11_s w_1442 dX11_sootBy_38 c18 ?_
    obtain ⟨a20, ea20, hw⟩ := wp_rq hw
    refine G.sure ea20 ?_
    refine G_iconst (v := (0 : Int32)) dX11_sootBy_41 (by decide) ?_
    obtain ⟨c21, hw⟩ := wp_ck hw
    obtain ⟨c22, hw⟩ := wp_ck hw
    refine G_ialoadK (k := 0) dX11_sootBy_42 c21 (by decide) rfl c22 ?_
    refine G_callV (As := [.int (hI h17 a20 0)]) (s_X11_windIn hs l0 (hI h17 a20 0) h17 _ (wp_cl hw)) ca_X11_windIn w_1814 w_83 (ci := 10) rfl (by decide) w_1812 c18 (Nat.le_of_ble_eq_true rfl) (Nat.le_of_ble_eq_true rfl) rfl (Nat.le_of_ble_eq_true rfl) (Nat.le_of_ble_eq_true rfl) (Nat.le_of_ble_eq_true rfl) dX11_sootBy_43 rfl (fun v h24 hq => ?_)
    obtain ⟨r23, rfl, hw⟩ := hq
    refine G.cse (cs' := (0, 0)) rfl ?_
    show GZ _ _ _ _ _ _ _ 46 _ (.int r23 :: [.int (3 : Int32), .ref a19]) _ _
    obtain ⟨c25, hw⟩ := wp_ck hw
    obtain ⟨c26, hw⟩ := wp_ck hw
    refine G_iastoreK (k := 3) dX11_sootBy_46 c25 (by decide) rfl c26 ?_
    refine G.nmh fun h27 eh27 => ?_
    have hw := wp_bd hw h27 eh27
    refine G_aload_n dX11_sootBy_47 rfl ?_
    refine G_iconst (v := (1 : Int32)) dX11_sootBy_48 (by decide) ?_
    obtain ⟨c30, hw⟩ := wp_ck hw
    refine G_callV (As := [.int (1 : Int32)]) (s_X11_worked hs l0 (1 : Int32) h27 _ (wp_cl hw)) ca_X11_worked w_1818 w_84 (ci := 10) rfl (by decide) w_1816 c30 (Nat.le_of_ble_eq_true rfl) (Nat.le_of_ble_eq_true rfl) rfl (Nat.le_of_ble_eq_true rfl) (Nat.le_of_ble_eq_true rfl) (Nat.le_of_ble_eq_true rfl) dX11_sootBy_49 rfl (fun v h29 hq => ?_)
    obtain ⟨r28, rfl, hw⟩ := hq
    refine G.cse (cs' := (0, 0)) rfl ?_
    show GZ _ _ _ _ _ _ _ 52 _ (.int r28 :: []) _ _
    refine G_istore_n (lv' := [some (.ref l0), some (.int l1), some (.int l2), some (.int r28)]) dX11_sootBy_52 (Nat.le_of_ble_eq_true rfl) rfl ?_
    refine G.less [none, none, none, some (.int r28)] ⟨rfl, trivial⟩ ?_
    exact f_X11_sootBy_53_ok hs _ h29 Q hw
set_option maxHeartbeats 4000000 in
set_option maxRecDepth 100000 in
theorem s_X11_isFire {Γ : GX} (hs : SF Γ) {N : Nat} (l0 : Nat) (l1 : Int32) (h : PH) (Q : Int32 → PH → Prop) (hw : wp (f_X11_isFire N l0 l1 h) Q) : Spec Γ yX11_isFire cX11_isFire 2 (some .boolean) (1, 0, 0) [.ref l0, .int l1] h (q_i Q) := by
  refine Spec.of (by decide) (Nat.le_of_ble_eq_true rfl) [some (.ref l0), some (.int l1)] rfl ?_
  unfold f_X11_isFire at hw
  refine G_aload_n dX11_isFire_0 rfl ?_
  obtain ⟨c1, hw⟩ := wp_ck hw
  refine G_getR fl_X11_s w_1442 dX11_isFire_1 c1 ?_
  obtain ⟨a2, ea2, hw⟩ := wp_rq hw
  refine G.sure ea2 ?_
  refine G_iconst (v := (5 : Int32)) dX11_isFire_4 (by decide) ?_
  refine G_iload_n dX11_isFire_5 rfl ?_
  refine G_iadd dX11_isFire_6 ?_
  obtain ⟨c3, hw⟩ := wp_ck hw
  obtain ⟨c4, hw⟩ := wp_ck hw
  refine G_iaload dX11_isFire_7 c3 c4 ?_
  have hw := wp_if hw
  refine G_if_le (tgt := 15) dX11_isFire_8 rfl (fun c5 => ?_) (fun c5 => ?_)
  · have hw := hw.1 c5
    refine G_iconst (v := (0 : Int32)) dX11_isFire_15 (by decide) ?_
    exact G_zreturn rfl dX11_isFire_16 rfl ⟨_, rfl, wp_ret hw⟩
  · have hw := hw.2 c5
    refine G_iconst (v := (1 : Int32)) dX11_isFire_11 (by decide) ?_
    refine G_goto (tgt := 16) dX11_isFire_12 rfl ?_
    exact G_zreturn rfl dX11_isFire_16 rfl ⟨_, rfl, wp_ret hw⟩
set_option maxHeartbeats 4000000 in
set_option maxRecDepth 100000 in
theorem s_X11_fireGives {Γ : GX} (hs : SF Γ) {N : Nat} (l0 : Nat) (l1 : Int32) (l2 : Int32) (h : PH) (Q : Int32 → PH → Prop) (hw : wp (f_X11_fireGives N l0 l1 l2 h) Q) : Spec Γ yX11_fireGives cX11_fireGives 3 (some .int) (5, 0, 0) [.ref l0, .int l1, .int l2] h (q_i Q) := by
  refine Spec.of (by decide) (Nat.le_of_ble_eq_true rfl) [some (.ref l0), some (.int l1), some (.int l2)] rfl ?_
  unfold f_X11_fireGives at hw
  refine G_aload_n dX11_fireGives_0 rfl ?_
  refine G_iload_n dX11_fireGives_1 rfl ?_
  obtain ⟨c3, hw⟩ := wp_ck hw
  refine G_callV (As := [.int l1]) (s_X11_isFire hs l0 l1 h _ (wp_cl hw)) ca_X11_isFire w_1806 w_81 (ci := 10) rfl (by decide) w_1804 c3 (Nat.le_of_ble_eq_true rfl) (Nat.le_of_ble_eq_true rfl) rfl (Nat.le_of_ble_eq_true rfl) (Nat.le_of_ble_eq_true rfl) (Nat.le_of_ble_eq_true rfl) dX11_fireGives_2 rfl (fun v h2 hq => ?_)
  obtain ⟨r1, rfl, hw⟩ := hq
  refine G.cse (cs' := (0, 0)) rfl ?_
  show GZ _ _ _ _ _ _ _ 5 _ (.int r1 :: []) _ _
  have hw := wp_if hw
  refine G_if_eq (tgt := 38) dX11_fireGives_5 rfl (fun c4 => ?_) (fun c4 => ?_)
  · have hw := hw.1 c4
    refine G_iconst (v := (0 : Int32)) dX11_fireGives_38 (by decide) ?_
    exact G_ireturn rfl dX11_fireGives_39 ⟨_, rfl, wp_ret hw⟩
  · have hw := hw.2 c4
    refine G_aload_n dX11_fireGives_8 rfl ?_
    refine G_aload_n dX11_fireGives_9 rfl ?_
    obtain ⟨c5, hw⟩ := wp_ck hw
    refine G_getR fl_X11_s w_1442 dX11_fireGives_10 c5 ?_
    obtain ⟨a6, ea6, hw⟩ := wp_rq hw
    refine G.sure ea6 ?_
    refine G_iconst (v := (1 : Int32)) dX11_fireGives_13 (by decide) ?_
    refine G_iload_n dX11_fireGives_14 rfl ?_
    refine G_iadd dX11_fireGives_15 ?_
    obtain ⟨c7, hw⟩ := wp_ck hw
    obtain ⟨c8, hw⟩ := wp_ck hw
    refine G_iaload dX11_fireGives_16 c7 c8 ?_
    refine G_aload_n dX11_fireGives_17 rfl ?_
    refine G_getR fl_X11_s w_1442 dX11_fireGives_18 c5 ?_
    obtain ⟨a9, ea9, hw⟩ := wp_rq hw
    refine G.sure ea9 ?_
    refine G_iconst (v := (5 : Int32)) dX11_fireGives_21 (by decide) ?_
    refine G_iload_n dX11_fireGives_22 rfl ?_
    refine G_iadd dX11_fireGives_23 ?_
    obtain ⟨c10, hw⟩ := wp_ck hw
    obtain ⟨c11, hw⟩ := wp_ck hw
    refine G_iaload dX11_fireGives_24 c10 c11 ?_
    refine G_aload_n dX11_fireGives_25 rfl ?_
    refine G_getR fl_X11_s w_1442 dX11_fireGives_26 c5 ?_
    obtain ⟨a12, ea12, hw⟩ := wp_rq hw
    refine G.sure ea12 ?_
    refine G_iconst (v := (0 : Int32)) dX11_fireGives_29 (by decide) ?_
    obtain ⟨c13, hw⟩ := wp_ck hw
    obtain ⟨c14, hw⟩ := wp_ck hw
    refine G_ialoadK (k := 0) dX11_fireGives_30 c13 (by decide) rfl c14 ?_
    refine G_iload_n dX11_fireGives_31 rfl ?_
    refine G_callV (As := [.int (hI h2 a6 (ix ((1 : Int32) + l1))), .int (hI h2 a9 (ix ((5 : Int32) + l1))), .int (hI h2 a12 0), .int l2]) (s_X11_givesIn hs l0 (hI h2 a6 (ix ((1 : Int32) + l1))) (hI h2 a9 (ix ((5 : Int32) + l1))) (hI h2 a12 0) l2 h2 _ (wp_cl hw)) ca_X11_givesIn w_1810 w_82 (ci := 10) rfl (by decide) w_1808 c5 (Nat.le_of_ble_eq_true rfl) (Nat.le_of_ble_eq_true rfl) rfl (Nat.le_of_ble_eq_true rfl) (Nat.le_of_ble_eq_true rfl) (Nat.le_of_ble_eq_true rfl) dX11_fireGives_32 rfl (fun v h16 hq => ?_)
    obtain ⟨r15, rfl, hw⟩ := hq
    refine G.cse (cs' := (0, 0)) rfl ?_
    show GZ _ _ _ _ _ _ _ 35 _ (.int r15 :: []) _ _
    refine G_goto (tgt := 39) dX11_fireGives_35 rfl ?_
    exact G_ireturn rfl dX11_fireGives_39 ⟨_, rfl, wp_ret hw⟩
set_option maxHeartbeats 4000000 in
set_option maxRecDepth 100000 in
theorem f_X11_smokeOf_39_ok {Γ : GX} (hs : SF Γ) {N : Nat} {K_5 : Nat → Int32 → Int32 → Int32 → Int32 → PH → Option (Int32 × PH)} (hK_5 : ∀ (l0 : Nat) (l1 : Int32) (l2 : Int32) (l3 : Int32) (l4 : Int32) (h : PH) (Q : Int32 → PH → Prop), wp (K_5 l0 l1 l2 l3 l4 h) Q → G Γ yX11_smokeOf cX11_smokeOf 5 (some .int) (6, 0, 0) 5 [some (.ref l0), some (.int l1), some (.int l2), some (.int l3), some (.int l4)] [] h (0, 0) (q_i Q)) (s0 : Int32) (s1 : Int32) (l0 : Nat) (l1 : Int32) (l2 : Int32) (l4 : Int32) (h : PH) (Q : Int32 → PH → Prop) (hw : wp (f_X11_smokeOf_39 N K_5 s0 s1 l0 l1 l2 l4 h) Q) : G Γ yX11_smokeOf cX11_smokeOf 5 (some .int) (6, 0, 0) 39 [some (.ref l0), some (.int l1), some (.int l2), none, some (.int l4)] [.int s0, .int s1] h (0, 0) (q_i Q) := by
  unfold f_X11_smokeOf_39 at hw
  refine G_iadd dX11_smokeOf_39 ?_
  refine G.topi fun v1 ev1 => ?_
  have hw := wp_bd hw v1 ev1
  refine G_istore_n (lv' := [some (.ref l0), some (.int l1), some (.int l2), some (.int v1), some (.int l4)]) dX11_smokeOf_40 (Nat.le_of_ble_eq_true rfl) rfl ?_
  obtain ⟨v2, ev2⟩ : ∃ z : Int32, z = l4 + (1 : Int32) := ⟨_, rfl⟩
  have hw := wp_bd hw v2 ev2
  refine G_iinc (v := v2) (lv' := [some (.ref l0), some (.int l1), some (.int l2), some (.int v1), some (.int v2)]) dX11_smokeOf_41 rfl (by rw [ev2]; rfl) (Nat.le_of_ble_eq_true rfl) rfl ?_
  refine G_goto (tgt := 5) dX11_smokeOf_44 rfl ?_
  refine G.less [some (.ref l0), some (.int l1), some (.int l2), some (.int v1), some (.int v2)] ⟨rfl, ⟨rfl, ⟨rfl, ⟨rfl, ⟨rfl, trivial⟩⟩⟩⟩⟩ ?_
  exact hK_5 _ _ _ _ _ h Q hw
set_option maxHeartbeats 4000000 in
set_option maxRecDepth 100000 in
theorem f_X11_smokeOf_5_bok {Γ : GX} (hs : SF Γ) {N : Nat} {K_5 : Nat → Int32 → Int32 → Int32 → Int32 → PH → Option (Int32 × PH)} (hK_5 : ∀ (l0 : Nat) (l1 : Int32) (l2 : Int32) (l3 : Int32) (l4 : Int32) (h : PH) (Q : Int32 → PH → Prop), wp (K_5 l0 l1 l2 l3 l4 h) Q → G Γ yX11_smokeOf cX11_smokeOf 5 (some .int) (6, 0, 0) 5 [some (.ref l0), some (.int l1), some (.int l2), some (.int l3), some (.int l4)] [] h (0, 0) (q_i Q)) (l0 : Nat) (l1 : Int32) (l2 : Int32) (l3 : Int32) (l4 : Int32) (h : PH) (Q : Int32 → PH → Prop) (hw : wp (f_X11_smokeOf_5_b N K_5 l0 l1 l2 l3 l4 h) Q) : G Γ yX11_smokeOf cX11_smokeOf 5 (some .int) (6, 0, 0) 5 [some (.ref l0), some (.int l1), some (.int l2), some (.int l3), some (.int l4)] [] h (0, 0) (q_i Q) := by
  unfold f_X11_smokeOf_5_b at hw
  refine G_iload dX11_smokeOf_5 rfl ?_
  refine G_aload_n dX11_smokeOf_7 rfl ?_
  obtain ⟨c1, hw⟩ := wp_ck hw
  refine G_getR fl_X11_valley w_1403 dX11_smokeOf_8 c1 ?_
  obtain ⟨a2, ea2, hw⟩ := wp_rq hw
  refine G.sure ea2 ?_
  refine G_iconst (v := (2 : Int32)) dX11_smokeOf_11 (by decide) ?_
  obtain ⟨c3, hw⟩ := wp_ck hw
  obtain ⟨c4, hw⟩ := wp_ck hw
  refine G_ialoadK (k := 2) dX11_smokeOf_12 c3 (by decide) rfl c4 ?_
  have hw := wp_if hw
  refine G_icmp_ge (tgt := 47) dX11_smokeOf_13 rfl (fun c5 => ?_) (fun c5 => ?_)
  · have hw := hw.1 c5
    refine G_sipush (v := (999 : Int32)) dX11_smokeOf_47 (by decide) ?_
    refine G_iload_n dX11_smokeOf_50 rfl ?_
    refine G_mmin w_1835 w_642 w_139 w_643 dX11_smokeOf_51 (Nat.le_of_ble_eq_true rfl) (Nat.le_of_ble_eq_true rfl) (Nat.le_of_ble_eq_true rfl) (Nat.le_of_ble_eq_true rfl) ?_
    exact G_ireturn rfl dX11_smokeOf_54 ⟨_, rfl, wp_ret hw⟩
  · have hw := hw.2 c5
    refine G_iload_n dX11_smokeOf_16 rfl ?_
    refine G_aload_n dX11_smokeOf_17 rfl ?_
    refine G_getR fl_X11_houseAt w_1408 dX11_smokeOf_18 c1 ?_
    obtain ⟨a6, ea6, hw⟩ := wp_rq hw
    refine G.sure ea6 ?_
    refine G_iload dX11_smokeOf_21 rfl ?_
    obtain ⟨c7, hw⟩ := wp_ck hw
    obtain ⟨c8, hw⟩ := wp_ck hw
    refine G_iaload dX11_smokeOf_23 c7 c8 ?_
    refine G_iload_n dX11_smokeOf_24 rfl ?_
    have hw := wp_if hw
    refine G_icmp_ne (tgt := 38) dX11_smokeOf_25 rfl (fun c9 => ?_) (fun c9 => ?_)
    · have hw := hw.2 c9
      refine G_iconst (v := (0 : Int32)) dX11_smokeOf_38 (by decide) ?_
      refine G.less [some (.ref l0), some (.int l1), some (.int l2), none, some (.int l4)] ⟨rfl, ⟨rfl, ⟨rfl, ⟨rfl, trivial⟩⟩⟩⟩ ?_
      exact f_X11_smokeOf_39_ok hs hK_5 _ _ _ _ _ _ h Q hw
    · have hw := hw.1 c9
      refine G_aload_n dX11_smokeOf_28 rfl ?_
      refine G_iload dX11_smokeOf_29 rfl ?_
      refine G_iload_n dX11_smokeOf_31 rfl ?_
      refine G_callV (As := [.int l4, .int l2]) (s_X11_fireGives hs l0 l4 l2 h _ (wp_cl hw)) ca_X11_fireGives w_1802 w_80 (ci := 10) rfl (by decide) w_1800 c1 (Nat.le_of_ble_eq_true rfl) (Nat.le_of_ble_eq_true rfl) rfl (Nat.le_of_ble_eq_true rfl) (Nat.le_of_ble_eq_true rfl) (Nat.le_of_ble_eq_true rfl) dX11_smokeOf_32 rfl (fun v h11 hq => ?_)
      obtain ⟨r10, rfl, hw⟩ := hq
      refine G.cse (cs' := (0, 0)) rfl ?_
      show GZ _ _ _ _ _ _ _ 35 _ (.int r10 :: [.int l3]) _ _
      refine G_goto (tgt := 39) dX11_smokeOf_35 rfl ?_
      refine G.less [some (.ref l0), some (.int l1), some (.int l2), none, some (.int l4)] ⟨rfl, ⟨rfl, ⟨rfl, ⟨rfl, trivial⟩⟩⟩⟩ ?_
      exact f_X11_smokeOf_39_ok hs hK_5 _ _ _ _ _ _ h11 Q hw
theorem f_X11_smokeOf_5_ok {Γ : GX} (hs : SF Γ) {N : Nat} : ∀ (n : Nat) (l0 : Nat) (l1 : Int32) (l2 : Int32) (l3 : Int32) (l4 : Int32) (h : PH) (Q : Int32 → PH → Prop), wp (f_X11_smokeOf_5 N n l0 l1 l2 l3 l4 h) Q → G Γ yX11_smokeOf cX11_smokeOf 5 (some .int) (6, 0, 0) 5 [some (.ref l0), some (.int l1), some (.int l2), some (.int l3), some (.int l4)] [] h (0, 0) (q_i Q)
  | 0, _, _, _, _, _, _, Q, hw => (wp_no hw).elim
  | n + 1, l0, l1, l2, l3, l4, h, Q, hw => f_X11_smokeOf_5_bok (N := N) hs (f_X11_smokeOf_5_ok (N := N) hs n) l0 l1 l2 l3 l4 h Q hw
set_option maxHeartbeats 4000000 in
set_option maxRecDepth 100000 in
theorem s_X11_smokeOf {Γ : GX} (hs : SF Γ) {N : Nat} (l0 : Nat) (l1 : Int32) (l2 : Int32) (h : PH) (Q : Int32 → PH → Prop) (hw : wp (f_X11_smokeOf N l0 l1 l2 h) Q) : Spec Γ yX11_smokeOf cX11_smokeOf 5 (some .int) (6, 0, 0) [.ref l0, .int l1, .int l2] h (q_i Q) := by
  refine Spec.of (by decide) (Nat.le_of_ble_eq_true rfl) [some (.ref l0), some (.int l1), some (.int l2), none, none] rfl ?_
  unfold f_X11_smokeOf at hw
  refine G_iconst (v := (0 : Int32)) dX11_smokeOf_0 (by decide) ?_
  refine G_istore_n (lv' := [some (.ref l0), some (.int l1), some (.int l2), some (.int (0 : Int32)), none]) dX11_smokeOf_1 (Nat.le_of_ble_eq_true rfl) rfl ?_
  refine G_iconst (v := (0 : Int32)) dX11_smokeOf_2 (by decide) ?_
  refine G_istore (lv' := [some (.ref l0), some (.int l1), some (.int l2), some (.int (0 : Int32)), some (.int (0 : Int32))]) dX11_smokeOf_3 (Nat.le_of_ble_eq_true rfl) rfl ?_
  refine G.less [some (.ref l0), some (.int l1), some (.int l2), some (.int (0 : Int32)), some (.int (0 : Int32))] ⟨rfl, ⟨rfl, ⟨rfl, ⟨rfl, ⟨rfl, trivial⟩⟩⟩⟩⟩ ?_
  exact f_X11_smokeOf_5_ok hs N _ _ _ _ _ h Q hw
set_option maxHeartbeats 4000000 in
set_option maxRecDepth 100000 in
theorem f_X11_signOf_66_ok {Γ : GX} (hs : SF Γ) {N : Nat} {K_2 : Nat → Int32 → Int32 → Int32 → PH → Option (Int32 × PH)} (hK_2 : ∀ (l0 : Nat) (l1 : Int32) (l2 : Int32) (l3 : Int32) (h : PH) (Q : Int32 → PH → Prop), wp (K_2 l0 l1 l2 l3 h) Q → G Γ yX11_signOf cX11_signOf 4 (some .int) (2, 0, 0) 2 [some (.ref l0), some (.int l1), some (.int l2), some (.int l3)] [] h (0, 0) (q_i Q)) (l0 : Nat) (l1 : Int32) (l2 : Int32) (l3 : Int32) (h : PH) (Q : Int32 → PH → Prop) (hw : wp (f_X11_signOf_66 N K_2 l0 l1 l2 l3 h) Q) : G Γ yX11_signOf cX11_signOf 4 (some .int) (2, 0, 0) 66 [some (.ref l0), some (.int l1), some (.int l2), some (.int l3)] [] h (0, 0) (q_i Q) := by
  unfold f_X11_signOf_66 at hw
  obtain ⟨v1, ev1⟩ : ∃ z : Int32, z = l3 + (1 : Int32) := ⟨_, rfl⟩
  have hw := wp_bd hw v1 ev1
  refine G_iinc (v := v1) (lv' := [some (.ref l0), some (.int l1), some (.int l2), some (.int v1)]) dX11_signOf_66 rfl (by rw [ev1]; rfl) (Nat.le_of_ble_eq_true rfl) rfl ?_
  refine G_goto (tgt := 2) dX11_signOf_69 rfl ?_
  refine G.less [some (.ref l0), some (.int l1), some (.int l2), some (.int v1)] ⟨rfl, ⟨rfl, ⟨rfl, ⟨rfl, trivial⟩⟩⟩⟩ ?_
  exact hK_2 _ _ _ _ h Q hw
set_option maxHeartbeats 4000000 in
set_option maxRecDepth 100000 in
theorem f_X11_signOf_2_bok {Γ : GX} (hs : SF Γ) {N : Nat} {K_2 : Nat → Int32 → Int32 → Int32 → PH → Option (Int32 × PH)} (hK_2 : ∀ (l0 : Nat) (l1 : Int32) (l2 : Int32) (l3 : Int32) (h : PH) (Q : Int32 → PH → Prop), wp (K_2 l0 l1 l2 l3 h) Q → G Γ yX11_signOf cX11_signOf 4 (some .int) (2, 0, 0) 2 [some (.ref l0), some (.int l1), some (.int l2), some (.int l3)] [] h (0, 0) (q_i Q)) (l0 : Nat) (l1 : Int32) (l2 : Int32) (l3 : Int32) (h : PH) (Q : Int32 → PH → Prop) (hw : wp (f_X11_signOf_2_b N K_2 l0 l1 l2 l3 h) Q) : G Γ yX11_signOf cX11_signOf 4 (some .int) (2, 0, 0) 2 [some (.ref l0), some (.int l1), some (.int l2), some (.int l3)] [] h (0, 0) (q_i Q) := by
  unfold f_X11_signOf_2_b at hw
  refine G_iload_n dX11_signOf_2 rfl ?_
  refine G_aload_n dX11_signOf_3 rfl ?_
  obtain ⟨c1, hw⟩ := wp_ck hw
  refine G_getR fl_X11_valley w_1403 dX11_signOf_4 c1 ?_
  obtain ⟨a2, ea2, hw⟩ := wp_rq hw
  refine G.sure ea2 ?_
  refine G_iconst (v := (3 : Int32)) dX11_signOf_7 (by decide) ?_
  obtain ⟨c3, hw⟩ := wp_ck hw
  obtain ⟨c4, hw⟩ := wp_ck hw
  refine G_ialoadK (k := 3) dX11_signOf_8 c3 (by decide) rfl c4 ?_
  have hw := wp_if hw
  refine G_icmp_ge (tgt := 72) dX11_signOf_9 rfl (fun c5 => ?_) (fun c5 => ?_)
  · have hw := hw.1 c5
    refine G_iconst (v := (-1 : Int32)) dX11_signOf_72 (by decide) ?_
    exact G_ireturn rfl dX11_signOf_73 ⟨_, rfl, wp_ret hw⟩
  · have hw := hw.2 c5
    refine G_iload_n dX11_signOf_12 rfl ?_
    refine G_aload_n dX11_signOf_13 rfl ?_
    refine G_getR fl_X11_signs w_1410 dX11_signOf_14 c1 ?_
    obtain ⟨a6, ea6, hw⟩ := wp_rq hw
    refine G.sure ea6 ?_
    refine G_iconst (v := (4 : Int32)) dX11_signOf_17 (by decide) ?_
    refine G_iload_n dX11_signOf_18 rfl ?_
    refine G_imul dX11_signOf_19 ?_
    obtain ⟨c7, hw⟩ := wp_ck hw
    obtain ⟨c8, hw⟩ := wp_ck hw
    refine G_iaload dX11_signOf_20 c7 c8 ?_
    refine G_aload_n dX11_signOf_21 rfl ?_
    refine G_getR fl_X11_signs w_1410 dX11_signOf_22 c1 ?_
    obtain ⟨a9, ea9, hw⟩ := wp_rq hw
    refine G.sure ea9 ?_
    refine G_iconst (v := (4 : Int32)) dX11_signOf_25 (by decide) ?_
    refine G_iload_n dX11_signOf_26 rfl ?_
    refine G_imul dX11_signOf_27 ?_
    refine G_iconst (v := (1 : Int32)) dX11_signOf_28 (by decide) ?_
    refine G_iadd dX11_signOf_29 ?_
    obtain ⟨c10, hw⟩ := wp_ck hw
    obtain ⟨c11, hw⟩ := wp_ck hw
    refine G_iaload dX11_signOf_30 c10 c11 ?_
    refine G_callS (As := [.int l1, .int (hI h a6 (ix ((4 : Int32) * l3))), .int (hI h a9 (ix (((4 : Int32) * l3) + (1 : Int32))))]) (s_X11_within hs l1 (hI h a6 (ix ((4 : Int32) * l3))) (hI h a9 (ix (((4 : Int32) * l3) + (1 : Int32)))) h _ (wp_cl hw)) ca_X11_within w_1686 w_1685 (Nat.le_of_ble_eq_true rfl) (Nat.le_of_ble_eq_true rfl) rfl (Nat.le_of_ble_eq_true rfl) (Nat.le_of_ble_eq_true rfl) (Nat.le_of_ble_eq_true rfl) dX11_signOf_31 rfl (fun v h13 hq => ?_)
    obtain ⟨r12, rfl, hw⟩ := hq
    refine G.cse (cs' := (0, 0)) rfl ?_
    show GZ _ _ _ _ _ _ _ 34 _ (.int r12 :: []) _ _
    have hw := wp_if hw
    refine G_if_eq (tgt := 66) dX11_signOf_34 rfl (fun c14 => ?_) (fun c14 => ?_)
    · have hw := hw.1 c14
      refine G.less [some (.ref l0), some (.int l1), some (.int l2), some (.int l3)] ⟨rfl, ⟨rfl, ⟨rfl, ⟨rfl, trivial⟩⟩⟩⟩ ?_
      exact f_X11_signOf_66_ok hs hK_2 _ _ _ _ h13 Q hw
    · have hw := hw.2 c14
      refine G_iload_n dX11_signOf_37 rfl ?_
      refine G_aload_n dX11_signOf_38 rfl ?_
      obtain ⟨c15, hw⟩ := wp_ck hw
      refine G_getR fl_X11_signs w_1410 dX11_signOf_39 c15 ?_
      obtain ⟨a16, ea16, hw⟩ := wp_rq hw
      refine G.sure ea16 ?_
      refine G_iconst (v := (4 : Int32)) dX11_signOf_42 (by decide) ?_
      refine G_iload_n dX11_signOf_43 rfl ?_
      refine G_imul dX11_signOf_44 ?_
      refine G_iconst (v := (2 : Int32)) dX11_signOf_45 (by decide) ?_
      refine G_iadd dX11_signOf_46 ?_
      obtain ⟨c17, hw⟩ := wp_ck hw
      obtain ⟨c18, hw⟩ := wp_ck hw
      refine G_iaload dX11_signOf_47 c17 c18 ?_
      refine G_aload_n dX11_signOf_48 rfl ?_
      refine G_getR fl_X11_signs w_1410 dX11_signOf_49 c15 ?_
      obtain ⟨a19, ea19, hw⟩ := wp_rq hw
      refine G.sure ea19 ?_
      refine G_iconst (v := (4 : Int32)) dX11_signOf_52 (by decide) ?_
      refine G_iload_n dX11_signOf_53 rfl ?_
      refine G_imul dX11_signOf_54 ?_
      refine G_iconst (v := (3 : Int32)) dX11_signOf_55 (by decide) ?_
      refine G_iadd dX11_signOf_56 ?_
      obtain ⟨c20, hw⟩ := wp_ck hw
      obtain ⟨c21, hw⟩ := wp_ck hw
      refine G_iaload dX11_signOf_57 c20 c21 ?_
      refine G_callS (As := [.int l2, .int (hI h13 a16 (ix (((4 : Int32) * l3) + (2 : Int32)))), .int (hI h13 a19 (ix (((4 : Int32) * l3) + (3 : Int32))))]) (s_X11_within hs l2 (hI h13 a16 (ix (((4 : Int32) * l3) + (2 : Int32)))) (hI h13 a19 (ix (((4 : Int32) * l3) + (3 : Int32)))) h13 _ (wp_cl hw)) ca_X11_within w_1686 w_1685 (Nat.le_of_ble_eq_true rfl) (Nat.le_of_ble_eq_true rfl) rfl (Nat.le_of_ble_eq_true rfl) (Nat.le_of_ble_eq_true rfl) (Nat.le_of_ble_eq_true rfl) dX11_signOf_58 rfl (fun v h23 hq => ?_)
      obtain ⟨r22, rfl, hw⟩ := hq
      refine G.cse (cs' := (0, 0)) rfl ?_
      show GZ _ _ _ _ _ _ _ 61 _ (.int r22 :: []) _ _
      have hw := wp_if hw
      refine G_if_eq (tgt := 66) dX11_signOf_61 rfl (fun c24 => ?_) (fun c24 => ?_)
      · have hw := hw.1 c24
        refine G.less [some (.ref l0), some (.int l1), some (.int l2), some (.int l3)] ⟨rfl, ⟨rfl, ⟨rfl, ⟨rfl, trivial⟩⟩⟩⟩ ?_
        exact f_X11_signOf_66_ok hs hK_2 _ _ _ _ h23 Q hw
      · have hw := hw.2 c24
        refine G_iload_n dX11_signOf_64 rfl ?_
        exact G_ireturn rfl dX11_signOf_65 ⟨_, rfl, wp_ret hw⟩
theorem f_X11_signOf_2_ok {Γ : GX} (hs : SF Γ) {N : Nat} : ∀ (n : Nat) (l0 : Nat) (l1 : Int32) (l2 : Int32) (l3 : Int32) (h : PH) (Q : Int32 → PH → Prop), wp (f_X11_signOf_2 N n l0 l1 l2 l3 h) Q → G Γ yX11_signOf cX11_signOf 4 (some .int) (2, 0, 0) 2 [some (.ref l0), some (.int l1), some (.int l2), some (.int l3)] [] h (0, 0) (q_i Q)
  | 0, _, _, _, _, _, Q, hw => (wp_no hw).elim
  | n + 1, l0, l1, l2, l3, h, Q, hw => f_X11_signOf_2_bok (N := N) hs (f_X11_signOf_2_ok (N := N) hs n) l0 l1 l2 l3 h Q hw
set_option maxHeartbeats 4000000 in
set_option maxRecDepth 100000 in
theorem s_X11_signOf {Γ : GX} (hs : SF Γ) {N : Nat} (l0 : Nat) (l1 : Int32) (l2 : Int32) (h : PH) (Q : Int32 → PH → Prop) (hw : wp (f_X11_signOf N l0 l1 l2 h) Q) : Spec Γ yX11_signOf cX11_signOf 4 (some .int) (2, 0, 0) [.ref l0, .int l1, .int l2] h (q_i Q) := by
  refine Spec.of (by decide) (Nat.le_of_ble_eq_true rfl) [some (.ref l0), some (.int l1), some (.int l2), none] rfl ?_
  unfold f_X11_signOf at hw
  refine G_iconst (v := (0 : Int32)) dX11_signOf_0 (by decide) ?_
  refine G_istore_n (lv' := [some (.ref l0), some (.int l1), some (.int l2), some (.int (0 : Int32))]) dX11_signOf_1 (Nat.le_of_ble_eq_true rfl) rfl ?_
  refine G.less [some (.ref l0), some (.int l1), some (.int l2), some (.int (0 : Int32))] ⟨rfl, ⟨rfl, ⟨rfl, ⟨rfl, trivial⟩⟩⟩⟩ ?_
  exact f_X11_signOf_2_ok hs N _ _ _ _ h Q hw
set_option maxHeartbeats 4000000 in
set_option maxRecDepth 100000 in
theorem s_X11_canBurn {Γ : GX} (hs : SF Γ) {N : Nat} (l0 : Nat) (l1 : Int32) (l2 : Int32) (h : PH) (Q : Int32 → PH → Prop) (hw : wp (f_X11_canBurn N l0 l1 l2 h) Q) : Spec Γ yX11_canBurn cX11_canBurn 3 (some .boolean) (2, 0, 0) [.ref l0, .int l1, .int l2] h (q_i Q) := by
  refine Spec.of (by decide) (Nat.le_of_ble_eq_true rfl) [some (.ref l0), some (.int l1), some (.int l2)] rfl ?_
  unfold f_X11_canBurn at hw
  refine G_aload_n dX11_canBurn_0 rfl ?_
  refine G_iload_n dX11_canBurn_1 rfl ?_
  obtain ⟨c3, hw⟩ := wp_ck hw
  refine G_callV (As := [.int l1]) (s_X11_isFire hs l0 l1 h _ (wp_cl hw)) ca_X11_isFire w_1806 w_81 (ci := 10) rfl (by decide) w_1804 c3 (Nat.le_of_ble_eq_true rfl) (Nat.le_of_ble_eq_true rfl) rfl (Nat.le_of_ble_eq_true rfl) (Nat.le_of_ble_eq_true rfl) (Nat.le_of_ble_eq_true rfl) dX11_canBurn_2 rfl (fun v h2 hq => ?_)
  obtain ⟨r1, rfl, hw⟩ := hq
  refine G.cse (cs' := (0, 0)) rfl ?_
  show GZ _ _ _ _ _ _ _ 5 _ (.int r1 :: []) _ _
  have hw := wp_if hw
  refine G_if_ne (tgt := 28) dX11_canBurn_5 rfl (fun c4 => ?_) (fun c4 => ?_)
  · have hw := hw.2 c4
    refine G_iconst (v := (0 : Int32)) dX11_canBurn_28 (by decide) ?_
    exact G_zreturn rfl dX11_canBurn_29 rfl ⟨_, rfl, wp_ret hw⟩
  · have hw := hw.1 c4
    refine G_aload_n dX11_canBurn_8 rfl ?_
    obtain ⟨c5, hw⟩ := wp_ck hw
    refine G_getR fl_X11_s w_1442 dX11_canBurn_9 c5 ?_
    obtain ⟨a6, ea6, hw⟩ := wp_rq hw
    refine G.sure ea6 ?_
    refine G_bipush (v := (9 : Int32)) dX11_canBurn_12 (by decide) ?_
    refine G_iconst (v := (5 : Int32)) dX11_canBurn_14 (by decide) ?_
    refine G_iload_n dX11_canBurn_15 rfl ?_
    refine G_imul dX11_canBurn_16 ?_
    refine G_iadd dX11_canBurn_17 ?_
    refine G_iload_n dX11_canBurn_18 rfl ?_
    refine G_iadd dX11_canBurn_19 ?_
    obtain ⟨c7, hw⟩ := wp_ck hw
    obtain ⟨c8, hw⟩ := wp_ck hw
    refine G_iaload dX11_canBurn_20 c7 c8 ?_
    have hw := wp_if hw
    refine G_if_le (tgt := 28) dX11_canBurn_21 rfl (fun c9 => ?_) (fun c9 => ?_)
    · have hw := hw.1 c9
      refine G_iconst (v := (0 : Int32)) dX11_canBurn_28 (by decide) ?_
      exact G_zreturn rfl dX11_canBurn_29 rfl ⟨_, rfl, wp_ret hw⟩
    · have hw := hw.2 c9
      refine G_iconst (v := (1 : Int32)) dX11_canBurn_24 (by decide) ?_
      refine G_goto (tgt := 29) dX11_canBurn_25 rfl ?_
      exact G_zreturn rfl dX11_canBurn_29 rfl ⟨_, rfl, wp_ret hw⟩
set_option maxHeartbeats 4000000 in
set_option maxRecDepth 100000 in
theorem s_X11_lights {Γ : GX} (hs : SF Γ) {N : Nat} (l0 : Nat) (l1 : Int32) (l2 : Int32) (h : PH) (Q : Unit → PH → Prop) (hw : wp (f_X11_lights N l0 l1 l2 h) Q) : Spec Γ yX11_lights cX11_lights 3 none (1, 0, 0) [.ref l0, .int l1, .int l2] h (q_u Q) := by
  refine Spec.of (by decide) (Nat.le_of_ble_eq_true rfl) [some (.ref l0), some (.int l1), some (.int l2)] rfl ?_
  unfold f_X11_lights at hw
  refine G_aload_n dX11_lights_0 rfl ?_
  obtain ⟨c1, hw⟩ := wp_ck hw
  refine G_getR fl_X11_s w_1442 dX11_lights_1 c1 ?_
  obtain ⟨a2, ea2, hw⟩ := wp_rq hw
  refine G.sure ea2 ?_
  refine G_bipush (v := (9 : Int32)) dX11_lights_4 (by decide) ?_
  refine G_iconst (v := (5 : Int32)) dX11_lights_6 (by decide) ?_
  refine G_iload_n dX11_lights_7 rfl ?_
  refine G_imul dX11_lights_8 ?_
  refine G_iadd dX11_lights_9 ?_
  refine G_iload_n dX11_lights_10 rfl ?_
  refine G_iadd dX11_lights_11 ?_
  refine G.topi fun v3 ev3 => ?_
  have hw := wp_bd hw v3 ev3
  refine G_dup2 dX11_lights_12 rfl rfl ?_
  obtain ⟨c4, hw⟩ := wp_ck hw
  obtain ⟨c5, hw⟩ := wp_ck hw
  refine G_iaload dX11_lights_13 c4 c5 ?_
  refine G_iconst (v := (1 : Int32)) dX11_lights_14 (by decide) ?_
  refine G_isub dX11_lights_15 ?_
  refine G_iastore dX11_lights_16 c4 c5 ?_
  refine G.nmh fun h6 eh6 => ?_
  have hw := wp_bd hw h6 eh6
  refine G_aload_n dX11_lights_17 rfl ?_
  obtain ⟨c7, hw⟩ := wp_ck hw
  refine G_getR fl_X11_s w_1442 dX11_lights_18 c7 ?_
  obtain ⟨a8, ea8, hw⟩ := wp_rq hw
  refine G.sure ea8 ?_
  refine G_iconst (v := (1 : Int32)) dX11_lights_21 (by decide) ?_
  refine G_iload_n dX11_lights_22 rfl ?_
  refine G_iadd dX11_lights_23 ?_
  refine G_iload_n dX11_lights_24 rfl ?_
  obtain ⟨c9, hw⟩ := wp_ck hw
  obtain ⟨c10, hw⟩ := wp_ck hw
  refine G_iastore dX11_lights_25 c9 c10 ?_
  refine G.nmh fun h11 eh11 => ?_
  have hw := wp_bd hw h11 eh11
  refine G_aload_n dX11_lights_26 rfl ?_
  obtain ⟨c12, hw⟩ := wp_ck hw
  refine G_getR fl_X11_s w_1442 dX11_lights_27 c12 ?_
  obtain ⟨a13, ea13, hw⟩ := wp_rq hw
  refine G.sure ea13 ?_
  refine G_iconst (v := (5 : Int32)) dX11_lights_30 (by decide) ?_
  refine G_iload_n dX11_lights_31 rfl ?_
  refine G_iadd dX11_lights_32 ?_
  refine G_aload_n dX11_lights_33 rfl ?_
  refine G_getR fl_X11_fuelLong w_1407 dX11_lights_34 c12 ?_
  obtain ⟨a14, ea14, hw⟩ := wp_rq hw
  refine G.sure ea14 ?_
  refine G_iload_n dX11_lights_37 rfl ?_
  obtain ⟨c15, hw⟩ := wp_ck hw
  obtain ⟨c16, hw⟩ := wp_ck hw
  refine G_iaload dX11_lights_38 c15 c16 ?_
  obtain ⟨c17, hw⟩ := wp_ck hw
  obtain ⟨c18, hw⟩ := wp_ck hw
  refine G_iastore dX11_lights_39 c17 c18 ?_
  refine G.nmh fun h19 eh19 => ?_
  have hw := wp_bd hw h19 eh19
  exact G_vreturn rfl dX11_lights_40 ⟨rfl, wp_ret hw⟩
set_option maxHeartbeats 4000000 in
set_option maxRecDepth 100000 in
theorem f_X11_passes_55_ok {Γ : GX} (hs : SF Γ) {N : Nat} {K_12 : Nat → Int32 → PH → Option (Int32 × PH)} (hK_12 : ∀ (l0 : Nat) (l1 : Int32) (h : PH) (Q : Int32 → PH → Prop), wp (K_12 l0 l1 h) Q → G Γ yX11_passes cX11_passes 5 (some .int) (7, 0, 0) 12 [some (.ref l0), some (.int l1), none, none, none] [] h (0, 0) (q_i Q)) (s0 : Int32) (s1 : Int32) (s2 : Nat) (l0 : Nat) (l1 : Int32) (l2 : Int32) (l3 : Int32) (h : PH) (Q : Int32 → PH → Prop) (hw : wp (f_X11_passes_55 N K_12 s0 s1 s2 l0 l1 l2 l3 h) Q) : G Γ yX11_passes cX11_passes 5 (some .int) (7, 0, 0) 55 [some (.ref l0), some (.int l1), some (.int l2), some (.int l3), none] [.int s0, .int s1, .ref s2] h (0, 0) (q_i Q) := by
  unfold f_X11_passes_55 at hw
  refine G_iadd dX11_passes_55 ?_
  obtain ⟨c1, hw⟩ := wp_ck hw
  refine G_putI fl_X11_signsRead w_1448 dX11_passes_56 c1 ?_
  refine G.nmh fun h2 eh2 => ?_
  have hw := wp_bd hw h2 eh2
  refine G_aload_n dX11_passes_59 rfl ?_
  obtain ⟨c3, hw⟩ := wp_ck hw
  refine G_getR fl_X11_s w_1442 dX11_passes_60 c3 ?_
  obtain ⟨a4, ea4, hw⟩ := wp_rq hw
  refine G.sure ea4 ?_
  refine G_bipush (v := (29 : Int32)) dX11_passes_63 (by decide) ?_
  refine G_iload_n dX11_passes_65 rfl ?_
  refine G_iadd dX11_passes_66 ?_
  obtain ⟨c5, hw⟩ := wp_ck hw
  obtain ⟨c6, hw⟩ := wp_ck hw
  refine G_iaload dX11_passes_67 c5 c6 ?_
  refine G.topi fun v7 ev7 => ?_
  have hw := wp_bd hw v7 ev7
  refine G_istore (lv' := [some (.ref l0), some (.int l1), some (.int l2), some (.int l3), some (.int v7)]) dX11_passes_68 (Nat.le_of_ble_eq_true rfl) rfl ?_
  refine G_aload_n dX11_passes_70 rfl ?_
  refine G_getR fl_X11_s w_1442 dX11_passes_71 c3 ?_
  obtain ⟨a8, ea8, hw⟩ := wp_rq hw
  refine G.sure ea8 ?_
  refine G_bipush (v := (29 : Int32)) dX11_passes_74 (by decide) ?_
  refine G_iload_n dX11_passes_76 rfl ?_
  refine G_iadd dX11_passes_77 ?_
  refine G_sipush (v := (9999 : Int32)) dX11_passes_78 (by decide) ?_
  refine G_iload dX11_passes_81 rfl ?_
  refine G_aload_n dX11_passes_83 rfl ?_
  refine G_iload_n dX11_passes_84 rfl ?_
  refine G_iload_n dX11_passes_85 rfl ?_
  refine G_callV (As := [.int l2, .int l3]) (s_X11_sootBy hs l0 l2 l3 h2 _ (wp_cl hw)) ca_X11_sootBy w_1885 w_96 (ci := 10) rfl (by decide) w_1883 c3 (Nat.le_of_ble_eq_true rfl) (Nat.le_of_ble_eq_true rfl) rfl (Nat.le_of_ble_eq_true rfl) (Nat.le_of_ble_eq_true rfl) (Nat.le_of_ble_eq_true rfl) dX11_passes_86 rfl (fun v h10 hq => ?_)
  obtain ⟨r9, rfl, hw⟩ := hq
  refine G.cse (cs' := (0, 0)) rfl ?_
  show GZ _ _ _ _ _ _ _ 89 _ (.int r9 :: [.int v7, .int (9999 : Int32), .int ((29 : Int32) + l1), .ref a8]) _ _
  refine G_iadd dX11_passes_89 ?_
  refine G_mmin w_1835 w_642 w_139 w_643 dX11_passes_90 (Nat.le_of_ble_eq_true rfl) (Nat.le_of_ble_eq_true rfl) (Nat.le_of_ble_eq_true rfl) (Nat.le_of_ble_eq_true rfl) ?_
  obtain ⟨c11, hw⟩ := wp_ck hw
  obtain ⟨c12, hw⟩ := wp_ck hw
  refine G_iastore dX11_passes_93 c11 c12 ?_
  refine G.nmh fun h13 eh13 => ?_
  have hw := wp_bd hw h13 eh13
  refine G_aload_n dX11_passes_94 rfl ?_
  refine G_dup dX11_passes_95 rfl ?_
  obtain ⟨c14, hw⟩ := wp_ck hw
  refine G_getI fl_X11_sootCame w_1449 dX11_passes_96 c14 ?_
  refine G_aload_n dX11_passes_99 rfl ?_
  refine G_getR fl_X11_s w_1442 dX11_passes_100 c14 ?_
  obtain ⟨a15, ea15, hw⟩ := wp_rq hw
  refine G.sure ea15 ?_
  refine G_bipush (v := (29 : Int32)) dX11_passes_103 (by decide) ?_
  refine G_iload_n dX11_passes_105 rfl ?_
  refine G_iadd dX11_passes_106 ?_
  obtain ⟨c16, hw⟩ := wp_ck hw
  obtain ⟨c17, hw⟩ := wp_ck hw
  refine G_iaload dX11_passes_107 c16 c17 ?_
  refine G_iload dX11_passes_108 rfl ?_
  refine G_isub dX11_passes_110 ?_
  refine G_iadd dX11_passes_111 ?_
  refine G_putI fl_X11_sootCame w_1449 dX11_passes_112 c14 ?_
  refine G.nmh fun h18 eh18 => ?_
  have hw := wp_bd hw h18 eh18
  obtain ⟨v19, ev19⟩ : ∃ z : Int32, z = l1 + (1 : Int32) := ⟨_, rfl⟩
  have hw := wp_bd hw v19 ev19
  refine G_iinc (v := v19) (lv' := [some (.ref l0), some (.int v19), some (.int l2), some (.int l3), some (.int v7)]) dX11_passes_115 rfl (by rw [ev19]; rfl) (Nat.le_of_ble_eq_true rfl) rfl ?_
  refine G_goto (tgt := 12) dX11_passes_118 rfl ?_
  refine G.less [some (.ref l0), some (.int v19), none, none, none] ⟨rfl, ⟨rfl, trivial⟩⟩ ?_
  exact hK_12 _ _ h18 Q hw
set_option maxHeartbeats 4000000 in
set_option maxRecDepth 100000 in
theorem f_X11_passes_184_ok {Γ : GX} (hs : SF Γ) {N : Nat} {K_125 : Nat → Int32 → Int32 → PH → Option (Int32 × PH)} (hK_125 : ∀ (l0 : Nat) (l1 : Int32) (l2 : Int32) (h : PH) (Q : Int32 → PH → Prop), wp (K_125 l0 l1 l2 h) Q → G Γ yX11_passes cX11_passes 5 (some .int) (7, 0, 0) 125 [some (.ref l0), some (.int l1), some (.int l2), none, none] [] h (0, 0) (q_i Q)) (l0 : Nat) (l1 : Int32) (l2 : Int32) (h : PH) (Q : Int32 → PH → Prop) (hw : wp (f_X11_passes_184 N K_125 l0 l1 l2 h) Q) : G Γ yX11_passes cX11_passes 5 (some .int) (7, 0, 0) 184 [some (.ref l0), some (.int l1), some (.int l2), none, none] [] h (0, 0) (q_i Q) := by
  unfold f_X11_passes_184 at hw
  obtain ⟨v1, ev1⟩ : ∃ z : Int32, z = l2 + (1 : Int32) := ⟨_, rfl⟩
  have hw := wp_bd hw v1 ev1
  refine G_iinc (v := v1) (lv' := [some (.ref l0), some (.int l1), some (.int v1), none, none]) dX11_passes_184 rfl (by rw [ev1]; rfl) (Nat.le_of_ble_eq_true rfl) rfl ?_
  refine G_goto (tgt := 125) dX11_passes_187 rfl ?_
  refine G.less [some (.ref l0), some (.int l1), some (.int v1), none, none] ⟨rfl, ⟨rfl, ⟨rfl, trivial⟩⟩⟩ ?_
  exact hK_125 _ _ _ h Q hw
set_option maxHeartbeats 4000000 in
set_option maxRecDepth 100000 in
theorem f_X11_passes_125_bok {Γ : GX} (hs : SF Γ) {N : Nat} {K_125 : Nat → Int32 → Int32 → PH → Option (Int32 × PH)} (hK_125 : ∀ (l0 : Nat) (l1 : Int32) (l2 : Int32) (h : PH) (Q : Int32 → PH → Prop), wp (K_125 l0 l1 l2 h) Q → G Γ yX11_passes cX11_passes 5 (some .int) (7, 0, 0) 125 [some (.ref l0), some (.int l1), some (.int l2), none, none] [] h (0, 0) (q_i Q)) (l0 : Nat) (l1 : Int32) (l2 : Int32) (h : PH) (Q : Int32 → PH → Prop) (hw : wp (f_X11_passes_125_b N K_125 l0 l1 l2 h) Q) : G Γ yX11_passes cX11_passes 5 (some .int) (7, 0, 0) 125 [some (.ref l0), some (.int l1), some (.int l2), none, none] [] h (0, 0) (q_i Q) := by
  unfold f_X11_passes_125_b at hw
  refine G_iload_n dX11_passes_125 rfl ?_
  refine G_aload_n dX11_passes_126 rfl ?_
  obtain ⟨c1, hw⟩ := wp_ck hw
  refine G_getR fl_X11_valley w_1403 dX11_passes_127 c1 ?_
  obtain ⟨a2, ea2, hw⟩ := wp_rq hw
  refine G.sure ea2 ?_
  refine G_iconst (v := (2 : Int32)) dX11_passes_130 (by decide) ?_
  obtain ⟨c3, hw⟩ := wp_ck hw
  obtain ⟨c4, hw⟩ := wp_ck hw
  refine G_ialoadK (k := 2) dX11_passes_131 c3 (by decide) rfl c4 ?_
  have hw := wp_if hw
  refine G_icmp_ge (tgt := 190) dX11_passes_132 rfl (fun c5 => ?_) (fun c5 => ?_)
  · have hw := hw.1 c5
    refine G_aload_n dX11_passes_190 rfl ?_
    refine G_getR fl_X11_s w_1442 dX11_passes_191 c1 ?_
    obtain ⟨a6, ea6, hw⟩ := wp_rq hw
    refine G.sure ea6 ?_
    refine G_iconst (v := (0 : Int32)) dX11_passes_194 (by decide) ?_
    refine G_dup2 dX11_passes_195 rfl rfl ?_
    obtain ⟨c7, hw⟩ := wp_ck hw
    obtain ⟨c8, hw⟩ := wp_ck hw
    refine G_ialoadK (k := 0) dX11_passes_196 c7 (by decide) rfl c8 ?_
    refine G_iconst (v := (1 : Int32)) dX11_passes_197 (by decide) ?_
    refine G_iadd dX11_passes_198 ?_
    refine G_iastoreK (k := 0) dX11_passes_199 c7 (by decide) rfl c8 ?_
    refine G.nmh fun h9 eh9 => ?_
    have hw := wp_bd hw h9 eh9
    refine G_iload_n dX11_passes_200 rfl ?_
    exact G_ireturn rfl dX11_passes_201 ⟨_, rfl, wp_ret hw⟩
  · have hw := hw.2 c5
    refine G_aload_n dX11_passes_135 rfl ?_
    refine G_iload_n dX11_passes_136 rfl ?_
    refine G_callV (As := [.int l2]) (s_X11_isFire hs l0 l2 h _ (wp_cl hw)) ca_X11_isFire w_1806 w_81 (ci := 10) rfl (by decide) w_1804 c1 (Nat.le_of_ble_eq_true rfl) (Nat.le_of_ble_eq_true rfl) rfl (Nat.le_of_ble_eq_true rfl) (Nat.le_of_ble_eq_true rfl) (Nat.le_of_ble_eq_true rfl) dX11_passes_137 rfl (fun v h11 hq => ?_)
    obtain ⟨r10, rfl, hw⟩ := hq
    refine G.cse (cs' := (0, 0)) rfl ?_
    show GZ _ _ _ _ _ _ _ 140 _ (.int r10 :: []) _ _
    have hw := wp_if hw
    refine G_if_ne (tgt := 146) dX11_passes_140 rfl (fun c12 => ?_) (fun c12 => ?_)
    · have hw := hw.2 c12
      refine G_aload_n dX11_passes_146 rfl ?_
      obtain ⟨c13, hw⟩ := wp_ck hw
      refine G_getR fl_X11_s w_1442 dX11_passes_147 c13 ?_
      obtain ⟨a14, ea14, hw⟩ := wp_rq hw
      refine G.sure ea14 ?_
      refine G_iconst (v := (5 : Int32)) dX11_passes_150 (by decide) ?_
      refine G_iload_n dX11_passes_151 rfl ?_
      refine G_iadd dX11_passes_152 ?_
      refine G.topi fun v15 ev15 => ?_
      have hw := wp_bd hw v15 ev15
      refine G_dup2 dX11_passes_153 rfl rfl ?_
      obtain ⟨c16, hw⟩ := wp_ck hw
      obtain ⟨c17, hw⟩ := wp_ck hw
      refine G_iaload dX11_passes_154 c16 c17 ?_
      refine G_iconst (v := (1 : Int32)) dX11_passes_155 (by decide) ?_
      refine G_isub dX11_passes_156 ?_
      refine G_iastore dX11_passes_157 c16 c17 ?_
      refine G.nmh fun h18 eh18 => ?_
      have hw := wp_bd hw h18 eh18
      refine G_aload_n dX11_passes_158 rfl ?_
      obtain ⟨c19, hw⟩ := wp_ck hw
      refine G_getR fl_X11_s w_1442 dX11_passes_159 c19 ?_
      obtain ⟨a20, ea20, hw⟩ := wp_rq hw
      refine G.sure ea20 ?_
      refine G_iconst (v := (5 : Int32)) dX11_passes_162 (by decide) ?_
      refine G_iload_n dX11_passes_163 rfl ?_
      refine G_iadd dX11_passes_164 ?_
      obtain ⟨c21, hw⟩ := wp_ck hw
      obtain ⟨c22, hw⟩ := wp_ck hw
      refine G_iaload dX11_passes_165 c21 c22 ?_
      have hw := wp_if hw
      refine G_if_le (tgt := 172) dX11_passes_166 rfl (fun c23 => ?_) (fun c23 => ?_)
      · have hw := hw.1 c23
        refine G_aload_n dX11_passes_172 rfl ?_
        refine G_getR fl_X11_s w_1442 dX11_passes_173 c19 ?_
        obtain ⟨a24, ea24, hw⟩ := wp_rq hw
        refine G.sure ea24 ?_
        refine G_iconst (v := (1 : Int32)) dX11_passes_176 (by decide) ?_
        refine G_iload_n dX11_passes_177 rfl ?_
        refine G_iadd dX11_passes_178 ?_
        refine G_iconst (v := (-1 : Int32)) dX11_passes_179 (by decide) ?_
        obtain ⟨c25, hw⟩ := wp_ck hw
        obtain ⟨c26, hw⟩ := wp_ck hw
        refine G_iastore dX11_passes_180 c25 c26 ?_
        refine G.nmh fun h27 eh27 => ?_
        have hw := wp_bd hw h27 eh27
        obtain ⟨v28, ev28⟩ : ∃ z : Int32, z = l1 + (1 : Int32) := ⟨_, rfl⟩
        have hw := wp_bd hw v28 ev28
        refine G_iinc (v := v28) (lv' := [some (.ref l0), some (.int v28), some (.int l2), none, none]) dX11_passes_181 rfl (by rw [ev28]; rfl) (Nat.le_of_ble_eq_true rfl) rfl ?_
        refine G.less [some (.ref l0), some (.int v28), some (.int l2), none, none] ⟨rfl, ⟨rfl, ⟨rfl, trivial⟩⟩⟩ ?_
        exact f_X11_passes_184_ok hs hK_125 _ _ _ h27 Q hw
      · have hw := hw.2 c23
        refine G_goto (tgt := 184) dX11_passes_169 rfl ?_
        refine G.less [some (.ref l0), some (.int l1), some (.int l2), none, none] ⟨rfl, ⟨rfl, ⟨rfl, trivial⟩⟩⟩ ?_
        exact f_X11_passes_184_ok hs hK_125 _ _ _ h18 Q hw
    · have hw := hw.1 c12
      refine G_goto (tgt := 184) dX11_passes_143 rfl ?_
      refine G.less [some (.ref l0), some (.int l1), some (.int l2), none, none] ⟨rfl, ⟨rfl, ⟨rfl, trivial⟩⟩⟩ ?_
      exact f_X11_passes_184_ok hs hK_125 _ _ _ h11 Q hw
theorem f_X11_passes_125_ok {Γ : GX} (hs : SF Γ) {N : Nat} : ∀ (n : Nat) (l0 : Nat) (l1 : Int32) (l2 : Int32) (h : PH) (Q : Int32 → PH → Prop), wp (f_X11_passes_125 N n l0 l1 l2 h) Q → G Γ yX11_passes cX11_passes 5 (some .int) (7, 0, 0) 125 [some (.ref l0), some (.int l1), some (.int l2), none, none] [] h (0, 0) (q_i Q)
  | 0, _, _, _, _, Q, hw => (wp_no hw).elim
  | n + 1, l0, l1, l2, h, Q, hw => f_X11_passes_125_bok (N := N) hs (f_X11_passes_125_ok (N := N) hs n) l0 l1 l2 h Q hw
set_option maxHeartbeats 4000000 in
set_option maxRecDepth 100000 in
theorem f_X11_passes_12_bok {Γ : GX} (hs : SF Γ) {N : Nat} {K_12 : Nat → Int32 → PH → Option (Int32 × PH)} (hK_12 : ∀ (l0 : Nat) (l1 : Int32) (h : PH) (Q : Int32 → PH → Prop), wp (K_12 l0 l1 h) Q → G Γ yX11_passes cX11_passes 5 (some .int) (7, 0, 0) 12 [some (.ref l0), some (.int l1), none, none, none] [] h (0, 0) (q_i Q)) (l0 : Nat) (l1 : Int32) (h : PH) (Q : Int32 → PH → Prop) (hw : wp (f_X11_passes_12_b N K_12 l0 l1 h) Q) : G Γ yX11_passes cX11_passes 5 (some .int) (7, 0, 0) 12 [some (.ref l0), some (.int l1), none, none, none] [] h (0, 0) (q_i Q) := by
  unfold f_X11_passes_12_b at hw
  refine G_iload_n dX11_passes_12 rfl ?_
  refine G_aload_n dX11_passes_13 rfl ?_
  obtain ⟨c1, hw⟩ := wp_ck hw
  refine G_getR fl_X11_valley w_1403 dX11_passes_14 c1 ?_
  obtain ⟨a2, ea2, hw⟩ := wp_rq hw
  refine G.sure ea2 ?_
  refine G_iconst (v := (1 : Int32)) dX11_passes_17 (by decide) ?_
  obtain ⟨c3, hw⟩ := wp_ck hw
  obtain ⟨c4, hw⟩ := wp_ck hw
  refine G_ialoadK (k := 1) dX11_passes_18 c3 (by decide) rfl c4 ?_
  have hw := wp_if hw
  refine G_icmp_ge (tgt := 121) dX11_passes_19 rfl (fun c5 => ?_) (fun c5 => ?_)
  · have hw := hw.1 c5
    refine G_iconst (v := (0 : Int32)) dX11_passes_121 (by decide) ?_
    refine G_istore_n (lv' := [some (.ref l0), some (.int (0 : Int32)), none, none, none]) dX11_passes_122 (Nat.le_of_ble_eq_true rfl) rfl ?_
    refine G_iconst (v := (0 : Int32)) dX11_passes_123 (by decide) ?_
    refine G_istore_n (lv' := [some (.ref l0), some (.int (0 : Int32)), some (.int (0 : Int32)), none, none]) dX11_passes_124 (Nat.le_of_ble_eq_true rfl) rfl ?_
    refine G.less [some (.ref l0), some (.int (0 : Int32)), some (.int (0 : Int32)), none, none] ⟨rfl, ⟨rfl, ⟨rfl, trivial⟩⟩⟩ ?_
    exact f_X11_passes_125_ok hs N _ _ _ h Q hw
  · have hw := hw.2 c5
    refine G_aload_n dX11_passes_22 rfl ?_
    refine G_iload_n dX11_passes_23 rfl ?_
    refine G_iconst (v := (0 : Int32)) dX11_passes_24 (by decide) ?_
    refine G_callV (As := [.int l1, .int (0 : Int32)]) (s_X11_smokeOf hs l0 l1 (0 : Int32) h _ (wp_cl hw)) ca_X11_smokeOf w_1798 w_79 (ci := 10) rfl (by decide) w_1796 c1 (Nat.le_of_ble_eq_true rfl) (Nat.le_of_ble_eq_true rfl) rfl (Nat.le_of_ble_eq_true rfl) (Nat.le_of_ble_eq_true rfl) (Nat.le_of_ble_eq_true rfl) dX11_passes_25 rfl (fun v h7 hq => ?_)
    obtain ⟨r6, rfl, hw⟩ := hq
    refine G.cse (cs' := (0, 0)) rfl ?_
    show GZ _ _ _ _ _ _ _ 28 _ (.int r6 :: []) _ _
    refine G_istore_n (lv' := [some (.ref l0), some (.int l1), some (.int r6), none, none]) dX11_passes_28 (Nat.le_of_ble_eq_true rfl) rfl ?_
    refine G_aload_n dX11_passes_29 rfl ?_
    refine G_iload_n dX11_passes_30 rfl ?_
    refine G_iconst (v := (1 : Int32)) dX11_passes_31 (by decide) ?_
    obtain ⟨c10, hw⟩ := wp_ck hw
    refine G_callV (As := [.int l1, .int (1 : Int32)]) (s_X11_smokeOf hs l0 l1 (1 : Int32) h7 _ (wp_cl hw)) ca_X11_smokeOf w_1798 w_79 (ci := 10) rfl (by decide) w_1796 c10 (Nat.le_of_ble_eq_true rfl) (Nat.le_of_ble_eq_true rfl) rfl (Nat.le_of_ble_eq_true rfl) (Nat.le_of_ble_eq_true rfl) (Nat.le_of_ble_eq_true rfl) dX11_passes_32 rfl (fun v h9 hq => ?_)
    obtain ⟨r8, rfl, hw⟩ := hq
    refine G.cse (cs' := (0, 0)) rfl ?_
    show GZ _ _ _ _ _ _ _ 35 _ (.int r8 :: []) _ _
    refine G_istore_n (lv' := [some (.ref l0), some (.int l1), some (.int r6), some (.int r8), none]) dX11_passes_35 (Nat.le_of_ble_eq_true rfl) rfl ?_
    refine G_aload_n dX11_passes_36 rfl ?_
    refine G_dup dX11_passes_37 rfl ?_
    obtain ⟨c11, hw⟩ := wp_ck hw
    refine G_getI fl_X11_signsRead w_1448 dX11_passes_38 c11 ?_
    refine G_aload_n dX11_passes_41 rfl ?_
    refine G_iload_n dX11_passes_42 rfl ?_
    refine G_iload_n dX11_passes_43 rfl ?_
    refine G_callV (As := [.int r6, .int r8]) (s_X11_signOf hs l0 r6 r8 h9 _ (wp_cl hw)) ca_X11_signOf w_1838 w_88 (ci := 10) rfl (by decide) w_1836 c11 (Nat.le_of_ble_eq_true rfl) (Nat.le_of_ble_eq_true rfl) rfl (Nat.le_of_ble_eq_true rfl) (Nat.le_of_ble_eq_true rfl) (Nat.le_of_ble_eq_true rfl) dX11_passes_44 rfl (fun v h13 hq => ?_)
    obtain ⟨r12, rfl, hw⟩ := hq
    refine G.cse (cs' := (0, 0)) rfl ?_
    show GZ _ _ _ _ _ _ _ 47 _ (.int r12 :: [.int (hI h9 l0 55), .ref l0]) _ _
    have hw := wp_if hw
    refine G_if_lt (tgt := 54) dX11_passes_47 rfl (fun c14 => ?_) (fun c14 => ?_)
    · have hw := hw.1 c14
      refine G_iconst (v := (0 : Int32)) dX11_passes_54 (by decide) ?_
      refine G.less [some (.ref l0), some (.int l1), some (.int r6), some (.int r8), none] ⟨rfl, ⟨rfl, ⟨rfl, ⟨rfl, trivial⟩⟩⟩⟩ ?_
      exact f_X11_passes_55_ok hs hK_12 _ _ _ _ _ _ _ h13 Q hw
    · have hw := hw.2 c14
      refine G_iconst (v := (1 : Int32)) dX11_passes_50 (by decide) ?_
      refine G_goto (tgt := 55) dX11_passes_51 rfl ?_
      refine G.less [some (.ref l0), some (.int l1), some (.int r6), some (.int r8), none] ⟨rfl, ⟨rfl, ⟨rfl, ⟨rfl, trivial⟩⟩⟩⟩ ?_
      exact f_X11_passes_55_ok hs hK_12 _ _ _ _ _ _ _ h13 Q hw
theorem f_X11_passes_12_ok {Γ : GX} (hs : SF Γ) {N : Nat} : ∀ (n : Nat) (l0 : Nat) (l1 : Int32) (h : PH) (Q : Int32 → PH → Prop), wp (f_X11_passes_12 N n l0 l1 h) Q → G Γ yX11_passes cX11_passes 5 (some .int) (7, 0, 0) 12 [some (.ref l0), some (.int l1), none, none, none] [] h (0, 0) (q_i Q)
  | 0, _, _, _, Q, hw => (wp_no hw).elim
  | n + 1, l0, l1, h, Q, hw => f_X11_passes_12_bok (N := N) hs (f_X11_passes_12_ok (N := N) hs n) l0 l1 h Q hw
set_option maxHeartbeats 4000000 in
set_option maxRecDepth 100000 in
theorem s_X11_passes {Γ : GX} (hs : SF Γ) {N : Nat} (l0 : Nat) (h : PH) (Q : Int32 → PH → Prop) (hw : wp (f_X11_passes N l0 h) Q) : Spec Γ yX11_passes cX11_passes 5 (some .int) (7, 0, 0) [.ref l0] h (q_i Q) := by
  refine Spec.of (by decide) (Nat.le_of_ble_eq_true rfl) [some (.ref l0), none, none, none, none] rfl ?_
  unfold f_X11_passes at hw
  refine G_aload_n dX11_passes_0 rfl ?_
  refine G_iconst (v := (0 : Int32)) dX11_passes_1 (by decide) ?_
  obtain ⟨c1, hw⟩ := wp_ck hw
  refine G_putI fl_X11_signsRead w_1448 dX11_passes_2 c1 ?_
  refine G.nmh fun h2 eh2 => ?_
  have hw := wp_bd hw h2 eh2
  refine G_aload_n dX11_passes_5 rfl ?_
  refine G_iconst (v := (0 : Int32)) dX11_passes_6 (by decide) ?_
  obtain ⟨c3, hw⟩ := wp_ck hw
  refine G_putI fl_X11_sootCame w_1449 dX11_passes_7 c3 ?_
  refine G.nmh fun h4 eh4 => ?_
  have hw := wp_bd hw h4 eh4
  refine G_iconst (v := (0 : Int32)) dX11_passes_10 (by decide) ?_
  refine G_istore_n (lv' := [some (.ref l0), some (.int (0 : Int32)), none, none, none]) dX11_passes_11 (Nat.le_of_ble_eq_true rfl) rfl ?_
  refine G.less [some (.ref l0), some (.int (0 : Int32)), none, none, none] ⟨rfl, ⟨rfl, trivial⟩⟩ ?_
  exact f_X11_passes_12_ok hs N _ _ h4 Q hw
set_option maxHeartbeats 4000000 in
set_option maxRecDepth 100000 in
theorem s_X11_lends {Γ : GX} (hs : SF Γ) {N : Nat} (l0 : Nat) (l1 : Int32) (l2 : Int32) (l3 : Int32) (l4 : Int32) (h : PH) (Q : Unit → PH → Prop) (hw : wp (f_X11_lends N l0 l1 l2 l3 l4 h) Q) : Spec Γ yX11_lends cX11_lends 5 none (2, 0, 0) [.ref l0, .int l1, .int l2, .int l3, .int l4] h (q_u Q) := by
  refine Spec.of (by decide) (Nat.le_of_ble_eq_true rfl) [some (.ref l0), some (.int l1), some (.int l2), some (.int l3), some (.int l4)] rfl ?_
  unfold f_X11_lends at hw
  refine G_aload_n dX11_lends_0 rfl ?_
  obtain ⟨c1, hw⟩ := wp_ck hw
  refine G_getR fl_X11_s w_1442 dX11_lends_1 c1 ?_
  obtain ⟨a2, ea2, hw⟩ := wp_rq hw
  refine G.sure ea2 ?_
  refine G_bipush (v := (9 : Int32)) dX11_lends_4 (by decide) ?_
  refine G_iconst (v := (5 : Int32)) dX11_lends_6 (by decide) ?_
  refine G_iload_n dX11_lends_7 rfl ?_
  refine G_imul dX11_lends_8 ?_
  refine G_iadd dX11_lends_9 ?_
  refine G_iload_n dX11_lends_10 rfl ?_
  refine G_iadd dX11_lends_11 ?_
  refine G.topi fun v3 ev3 => ?_
  have hw := wp_bd hw v3 ev3
  refine G_dup2 dX11_lends_12 rfl rfl ?_
  obtain ⟨c4, hw⟩ := wp_ck hw
  obtain ⟨c5, hw⟩ := wp_ck hw
  refine G_iaload dX11_lends_13 c4 c5 ?_
  refine G_iload dX11_lends_14 rfl ?_
  refine G_isub dX11_lends_16 ?_
  refine G_iastore dX11_lends_17 c4 c5 ?_
  refine G.nmh fun h6 eh6 => ?_
  have hw := wp_bd hw h6 eh6
  refine G_aload_n dX11_lends_18 rfl ?_
  obtain ⟨c7, hw⟩ := wp_ck hw
  refine G_getR fl_X11_s w_1442 dX11_lends_19 c7 ?_
  obtain ⟨a8, ea8, hw⟩ := wp_rq hw
  refine G.sure ea8 ?_
  refine G_bipush (v := (9 : Int32)) dX11_lends_22 (by decide) ?_
  refine G_iconst (v := (5 : Int32)) dX11_lends_24 (by decide) ?_
  refine G_iload_n dX11_lends_25 rfl ?_
  refine G_imul dX11_lends_26 ?_
  refine G_iadd dX11_lends_27 ?_
  refine G_iload_n dX11_lends_28 rfl ?_
  refine G_iadd dX11_lends_29 ?_
  refine G_bipush (v := (99 : Int32)) dX11_lends_30 (by decide) ?_
  refine G_aload_n dX11_lends_32 rfl ?_
  refine G_getR fl_X11_s w_1442 dX11_lends_33 c7 ?_
  obtain ⟨a9, ea9, hw⟩ := wp_rq hw
  refine G.sure ea9 ?_
  refine G_bipush (v := (9 : Int32)) dX11_lends_36 (by decide) ?_
  refine G_iconst (v := (5 : Int32)) dX11_lends_38 (by decide) ?_
  refine G_iload_n dX11_lends_39 rfl ?_
  refine G_imul dX11_lends_40 ?_
  refine G_iadd dX11_lends_41 ?_
  refine G_iload_n dX11_lends_42 rfl ?_
  refine G_iadd dX11_lends_43 ?_
  obtain ⟨c10, hw⟩ := wp_ck hw
  obtain ⟨c11, hw⟩ := wp_ck hw
  refine G_iaload dX11_lends_44 c10 c11 ?_
  refine G_iload dX11_lends_45 rfl ?_
  refine G_iadd dX11_lends_47 ?_
  refine G_mmin w_1835 w_642 w_139 w_643 dX11_lends_48 (Nat.le_of_ble_eq_true rfl) (Nat.le_of_ble_eq_true rfl) (Nat.le_of_ble_eq_true rfl) (Nat.le_of_ble_eq_true rfl) ?_
  obtain ⟨c12, hw⟩ := wp_ck hw
  obtain ⟨c13, hw⟩ := wp_ck hw
  refine G_iastore dX11_lends_51 c12 c13 ?_
  refine G.nmh fun h14 eh14 => ?_
  have hw := wp_bd hw h14 eh14
  exact G_vreturn rfl dX11_lends_52 ⟨rfl, wp_ret hw⟩
set_option maxHeartbeats 4000000 in
set_option maxRecDepth 100000 in
theorem s_X11_house {Γ : GX} (hs : SF Γ) {N : Nat} (l0 : Nat) (l1 : Int32) (l2 : Int32) (h : PH) (Q : Int32 → PH → Prop) (hw : wp (f_X11_house N l0 l1 l2 h) Q) : Spec Γ yX11_house cX11_house 3 (some .int) (2, 0, 0) [.ref l0, .int l1, .int l2] h (q_i Q) := by
  refine Spec.of (by decide) (Nat.le_of_ble_eq_true rfl) [some (.ref l0), some (.int l1), some (.int l2)] rfl ?_
  unfold f_X11_house at hw
  refine G_aload_n dX11_house_0 rfl ?_
  refine G_iconst (v := (0 : Int32)) dX11_house_1 (by decide) ?_
  obtain ⟨c1, hw⟩ := wp_ck hw
  refine G_putI fl_X11_thrown w_1393 dX11_house_2 c1 ?_
  refine G.nmh fun h2 eh2 => ?_
  have hw := wp_bd hw h2 eh2
  refine G_aload_n dX11_house_5 rfl ?_
  refine G_iload_n dX11_house_6 rfl ?_
  obtain ⟨c5, hw⟩ := wp_ck hw
  refine G_callV (As := [.int l1]) (s_X11_isHouse hs l0 l1 h2 _ (wp_cl hw)) ca_X11_isHouse w_1786 w_77 (ci := 10) rfl (by decide) w_1784 c5 (Nat.le_of_ble_eq_true rfl) (Nat.le_of_ble_eq_true rfl) rfl (Nat.le_of_ble_eq_true rfl) (Nat.le_of_ble_eq_true rfl) (Nat.le_of_ble_eq_true rfl) dX11_house_7 rfl (fun v h4 hq => ?_)
  obtain ⟨r3, rfl, hw⟩ := hq
  refine G.cse (cs' := (0, 0)) rfl ?_
  show GZ _ _ _ _ _ _ _ 10 _ (.int r3 :: []) _ _
  have hw := wp_if hw
  refine G_if_eq (tgt := 29) dX11_house_10 rfl (fun c6 => ?_) (fun c6 => ?_)
  · have hw := hw.1 c6
    refine G_bipush (v := (-2 : Int32)) dX11_house_29 (by decide) ?_
    exact G_ireturn rfl dX11_house_31 ⟨_, rfl, wp_ret hw⟩
  · have hw := hw.2 c6
    refine G_iload_n dX11_house_13 rfl ?_
    have hw := wp_if hw
    refine G_if_lt (tgt := 29) dX11_house_14 rfl (fun c7 => ?_) (fun c7 => ?_)
    · have hw := hw.1 c7
      refine G_bipush (v := (-2 : Int32)) dX11_house_29 (by decide) ?_
      exact G_ireturn rfl dX11_house_31 ⟨_, rfl, wp_ret hw⟩
    · have hw := hw.2 c7
      refine G_iload_n dX11_house_17 rfl ?_
      refine G_iconst (v := (3 : Int32)) dX11_house_18 (by decide) ?_
      refine G_aload_n dX11_house_19 rfl ?_
      obtain ⟨c8, hw⟩ := wp_ck hw
      refine G_getR fl_X11_valley w_1403 dX11_house_20 c8 ?_
      obtain ⟨a9, ea9, hw⟩ := wp_rq hw
      refine G.sure ea9 ?_
      refine G_iconst (v := (0 : Int32)) dX11_house_23 (by decide) ?_
      obtain ⟨c10, hw⟩ := wp_ck hw
      obtain ⟨c11, hw⟩ := wp_ck hw
      refine G_ialoadK (k := 0) dX11_house_24 c10 (by decide) rfl c11 ?_
      refine G_iadd dX11_house_25 ?_
      have hw := wp_if hw
      refine G_icmp_lt (tgt := 32) dX11_house_26 rfl (fun c12 => ?_) (fun c12 => ?_)
      · have hw := hw.1 c12
        refine G_iload_n dX11_house_32 rfl ?_
        refine G_iconst (v := (3 : Int32)) dX11_house_33 (by decide) ?_
        have hw := wp_if hw
        refine G_icmp_ge (tgt := 75) dX11_house_34 rfl (fun c13 => ?_) (fun c13 => ?_)
        · have hw := hw.1 c13
          refine G_aload_n dX11_house_75 rfl ?_
          refine G_getR fl_X11_s w_1442 dX11_house_76 c8 ?_
          obtain ⟨a14, ea14, hw⟩ := wp_rq hw
          refine G.sure ea14 ?_
          refine G_bipush (v := (9 : Int32)) dX11_house_79 (by decide) ?_
          refine G_iconst (v := (5 : Int32)) dX11_house_81 (by decide) ?_
          refine G_iload_n dX11_house_82 rfl ?_
          refine G_imul dX11_house_83 ?_
          refine G_iadd dX11_house_84 ?_
          refine G_iload_n dX11_house_85 rfl ?_
          refine G_iadd dX11_house_86 ?_
          refine G_iconst (v := (3 : Int32)) dX11_house_87 (by decide) ?_
          refine G_isub dX11_house_88 ?_
          obtain ⟨c15, hw⟩ := wp_ck hw
          obtain ⟨c16, hw⟩ := wp_ck hw
          refine G_iaload dX11_house_89 c15 c16 ?_
          exact G_ireturn rfl dX11_house_90 ⟨_, rfl, wp_ret hw⟩
        · have hw := hw.2 c13
          refine G_iload_n dX11_house_37 rfl ?_
          have hw := wp_if hw
          refine G_if_ne (tgt := 50) dX11_house_38 rfl (fun c17 => ?_) (fun c17 => ?_)
          · have hw := hw.2 c17
            refine G_iload_n dX11_house_50 rfl ?_
            refine G_iconst (v := (1 : Int32)) dX11_house_51 (by decide) ?_
            have hw := wp_if hw
            refine G_icmp_ne (tgt := 66) dX11_house_52 rfl (fun c18 => ?_) (fun c18 => ?_)
            · have hw := hw.2 c18
              refine G_aload_n dX11_house_66 rfl ?_
              refine G_getR fl_X11_s w_1442 dX11_house_67 c8 ?_
              obtain ⟨a19, ea19, hw⟩ := wp_rq hw
              refine G.sure ea19 ?_
              refine G_iconst (v := (5 : Int32)) dX11_house_70 (by decide) ?_
              refine G_iload_n dX11_house_71 rfl ?_
              refine G_iadd dX11_house_72 ?_
              obtain ⟨c20, hw⟩ := wp_ck hw
              obtain ⟨c21, hw⟩ := wp_ck hw
              refine G_iaload dX11_house_73 c20 c21 ?_
              exact G_ireturn rfl dX11_house_74 ⟨_, rfl, wp_ret hw⟩
            · have hw := hw.1 c18
              refine G_aload_n dX11_house_55 rfl ?_
              refine G_getR fl_X11_s w_1442 dX11_house_56 c8 ?_
              obtain ⟨a22, ea22, hw⟩ := wp_rq hw
              refine G.sure ea22 ?_
              refine G_iconst (v := (1 : Int32)) dX11_house_59 (by decide) ?_
              refine G_iload_n dX11_house_60 rfl ?_
              refine G_iadd dX11_house_61 ?_
              obtain ⟨c23, hw⟩ := wp_ck hw
              obtain ⟨c24, hw⟩ := wp_ck hw
              refine G_iaload dX11_house_62 c23 c24 ?_
              refine G_goto (tgt := 74) dX11_house_63 rfl ?_
              exact G_ireturn rfl dX11_house_74 ⟨_, rfl, wp_ret hw⟩
          · have hw := hw.1 c17
            refine G_aload_n dX11_house_41 rfl ?_
            refine G_getR fl_X11_houseAt w_1408 dX11_house_42 c8 ?_
            obtain ⟨a25, ea25, hw⟩ := wp_rq hw
            refine G.sure ea25 ?_
            refine G_iload_n dX11_house_45 rfl ?_
            obtain ⟨c26, hw⟩ := wp_ck hw
            obtain ⟨c27, hw⟩ := wp_ck hw
            refine G_iaload dX11_house_46 c26 c27 ?_
            refine G_goto (tgt := 74) dX11_house_47 rfl ?_
            exact G_ireturn rfl dX11_house_74 ⟨_, rfl, wp_ret hw⟩
      · have hw := hw.2 c12
        refine G_bipush (v := (-2 : Int32)) dX11_house_29 (by decide) ?_
        exact G_ireturn rfl dX11_house_31 ⟨_, rfl, wp_ret hw⟩
set_option maxHeartbeats 4000000 in
set_option maxRecDepth 100000 in
theorem f_X11_housesOf_32_ok {Γ : GX} (hs : SF Γ) {N : Nat} {K_4 : Nat → Int32 → Int32 → Int32 → PH → Option (Int32 × PH)} (hK_4 : ∀ (l0 : Nat) (l1 : Int32) (l2 : Int32) (l3 : Int32) (h : PH) (Q : Int32 → PH → Prop), wp (K_4 l0 l1 l2 l3 h) Q → G Γ yX11_housesOf cX11_housesOf 4 (some .int) (1, 0, 0) 4 [some (.ref l0), some (.int l1), some (.int l2), some (.int l3)] [] h (0, 0) (q_i Q)) (s0 : Int32) (s1 : Int32) (l0 : Nat) (l1 : Int32) (l3 : Int32) (h : PH) (Q : Int32 → PH → Prop) (hw : wp (f_X11_housesOf_32 N K_4 s0 s1 l0 l1 l3 h) Q) : G Γ yX11_housesOf cX11_housesOf 4 (some .int) (1, 0, 0) 32 [some (.ref l0), some (.int l1), none, some (.int l3)] [.int s0, .int s1] h (0, 0) (q_i Q) := by
  unfold f_X11_housesOf_32 at hw
  refine G_ior dX11_housesOf_32 ?_
  refine G.topi fun v1 ev1 => ?_
  have hw := wp_bd hw v1 ev1
  refine G_istore_n (lv' := [some (.ref l0), some (.int l1), some (.int v1), some (.int l3)]) dX11_housesOf_33 (Nat.le_of_ble_eq_true rfl) rfl ?_
  obtain ⟨v2, ev2⟩ : ∃ z : Int32, z = l3 + (1 : Int32) := ⟨_, rfl⟩
  have hw := wp_bd hw v2 ev2
  refine G_iinc (v := v2) (lv' := [some (.ref l0), some (.int l1), some (.int v1), some (.int v2)]) dX11_housesOf_34 rfl (by rw [ev2]; rfl) (Nat.le_of_ble_eq_true rfl) rfl ?_
  refine G_goto (tgt := 4) dX11_housesOf_37 rfl ?_
  refine G.less [some (.ref l0), some (.int l1), some (.int v1), some (.int v2)] ⟨rfl, ⟨rfl, ⟨rfl, ⟨rfl, trivial⟩⟩⟩⟩ ?_
  exact hK_4 _ _ _ _ h Q hw
set_option maxHeartbeats 4000000 in
set_option maxRecDepth 100000 in
theorem f_X11_housesOf_4_bok {Γ : GX} (hs : SF Γ) {N : Nat} {K_4 : Nat → Int32 → Int32 → Int32 → PH → Option (Int32 × PH)} (hK_4 : ∀ (l0 : Nat) (l1 : Int32) (l2 : Int32) (l3 : Int32) (h : PH) (Q : Int32 → PH → Prop), wp (K_4 l0 l1 l2 l3 h) Q → G Γ yX11_housesOf cX11_housesOf 4 (some .int) (1, 0, 0) 4 [some (.ref l0), some (.int l1), some (.int l2), some (.int l3)] [] h (0, 0) (q_i Q)) (l0 : Nat) (l1 : Int32) (l2 : Int32) (l3 : Int32) (h : PH) (Q : Int32 → PH → Prop) (hw : wp (f_X11_housesOf_4_b N K_4 l0 l1 l2 l3 h) Q) : G Γ yX11_housesOf cX11_housesOf 4 (some .int) (1, 0, 0) 4 [some (.ref l0), some (.int l1), some (.int l2), some (.int l3)] [] h (0, 0) (q_i Q) := by
  unfold f_X11_housesOf_4_b at hw
  refine G_iload_n dX11_housesOf_4 rfl ?_
  refine G_aload_n dX11_housesOf_5 rfl ?_
  obtain ⟨c1, hw⟩ := wp_ck hw
  refine G_getR fl_X11_valley w_1403 dX11_housesOf_6 c1 ?_
  obtain ⟨a2, ea2, hw⟩ := wp_rq hw
  refine G.sure ea2 ?_
  refine G_iconst (v := (2 : Int32)) dX11_housesOf_9 (by decide) ?_
  obtain ⟨c3, hw⟩ := wp_ck hw
  obtain ⟨c4, hw⟩ := wp_ck hw
  refine G_ialoadK (k := 2) dX11_housesOf_10 c3 (by decide) rfl c4 ?_
  have hw := wp_if hw
  refine G_icmp_ge (tgt := 40) dX11_housesOf_11 rfl (fun c5 => ?_) (fun c5 => ?_)
  · have hw := hw.1 c5
    refine G_iload_n dX11_housesOf_40 rfl ?_
    exact G_ireturn rfl dX11_housesOf_41 ⟨_, rfl, wp_ret hw⟩
  · have hw := hw.2 c5
    refine G_iload_n dX11_housesOf_14 rfl ?_
    refine G_aload_n dX11_housesOf_15 rfl ?_
    refine G_getR fl_X11_houseAt w_1408 dX11_housesOf_16 c1 ?_
    obtain ⟨a6, ea6, hw⟩ := wp_rq hw
    refine G.sure ea6 ?_
    refine G_iload_n dX11_housesOf_19 rfl ?_
    obtain ⟨c7, hw⟩ := wp_ck hw
    obtain ⟨c8, hw⟩ := wp_ck hw
    refine G_iaload dX11_housesOf_20 c7 c8 ?_
    refine G_iload_n dX11_housesOf_21 rfl ?_
    have hw := wp_if hw
    refine G_icmp_ne (tgt := 31) dX11_housesOf_22 rfl (fun c9 => ?_) (fun c9 => ?_)
    · have hw := hw.2 c9
      refine G_iconst (v := (0 : Int32)) dX11_housesOf_31 (by decide) ?_
      refine G.less [some (.ref l0), some (.int l1), none, some (.int l3)] ⟨rfl, ⟨rfl, ⟨rfl, trivial⟩⟩⟩ ?_
      exact f_X11_housesOf_32_ok hs hK_4 _ _ _ _ _ h Q hw
    · have hw := hw.1 c9
      refine G_iconst (v := (1 : Int32)) dX11_housesOf_25 (by decide) ?_
      refine G_iload_n dX11_housesOf_26 rfl ?_
      refine G_ishl dX11_housesOf_27 ?_
      refine G_goto (tgt := 32) dX11_housesOf_28 rfl ?_
      refine G.less [some (.ref l0), some (.int l1), none, some (.int l3)] ⟨rfl, ⟨rfl, ⟨rfl, trivial⟩⟩⟩ ?_
      exact f_X11_housesOf_32_ok hs hK_4 _ _ _ _ _ h Q hw
theorem f_X11_housesOf_4_ok {Γ : GX} (hs : SF Γ) {N : Nat} : ∀ (n : Nat) (l0 : Nat) (l1 : Int32) (l2 : Int32) (l3 : Int32) (h : PH) (Q : Int32 → PH → Prop), wp (f_X11_housesOf_4 N n l0 l1 l2 l3 h) Q → G Γ yX11_housesOf cX11_housesOf 4 (some .int) (1, 0, 0) 4 [some (.ref l0), some (.int l1), some (.int l2), some (.int l3)] [] h (0, 0) (q_i Q)
  | 0, _, _, _, _, _, Q, hw => (wp_no hw).elim
  | n + 1, l0, l1, l2, l3, h, Q, hw => f_X11_housesOf_4_bok (N := N) hs (f_X11_housesOf_4_ok (N := N) hs n) l0 l1 l2 l3 h Q hw
set_option maxHeartbeats 4000000 in
set_option maxRecDepth 100000 in
theorem s_X11_housesOf {Γ : GX} (hs : SF Γ) {N : Nat} (l0 : Nat) (l1 : Int32) (h : PH) (Q : Int32 → PH → Prop) (hw : wp (f_X11_housesOf N l0 l1 h) Q) : Spec Γ yX11_housesOf cX11_housesOf 4 (some .int) (1, 0, 0) [.ref l0, .int l1] h (q_i Q) := by
  refine Spec.of (by decide) (Nat.le_of_ble_eq_true rfl) [some (.ref l0), some (.int l1), none, none] rfl ?_
  unfold f_X11_housesOf at hw
  refine G_iconst (v := (0 : Int32)) dX11_housesOf_0 (by decide) ?_
  refine G_istore_n (lv' := [some (.ref l0), some (.int l1), some (.int (0 : Int32)), none]) dX11_housesOf_1 (Nat.le_of_ble_eq_true rfl) rfl ?_
  refine G_iconst (v := (0 : Int32)) dX11_housesOf_2 (by decide) ?_
  refine G_istore_n (lv' := [some (.ref l0), some (.int l1), some (.int (0 : Int32)), some (.int (0 : Int32))]) dX11_housesOf_3 (Nat.le_of_ble_eq_true rfl) rfl ?_
  refine G.less [some (.ref l0), some (.int l1), some (.int (0 : Int32)), some (.int (0 : Int32))] ⟨rfl, ⟨rfl, ⟨rfl, ⟨rfl, trivial⟩⟩⟩⟩ ?_
  exact f_X11_housesOf_4_ok hs N _ _ _ _ h Q hw
set_option maxHeartbeats 4000000 in
set_option maxRecDepth 100000 in
theorem s_X11_flue {Γ : GX} (hs : SF Γ) {N : Nat} (l0 : Nat) (l1 : Int32) (l2 : Int32) (h : PH) (Q : Int32 → PH → Prop) (hw : wp (f_X11_flue N l0 l1 l2 h) Q) : Spec Γ yX11_flue cX11_flue 3 (some .int) (7, 0, 0) [.ref l0, .int l1, .int l2] h (q_i Q) := by
  refine Spec.of (by decide) (Nat.le_of_ble_eq_true rfl) [some (.ref l0), some (.int l1), some (.int l2)] rfl ?_
  unfold f_X11_flue at hw
  refine G_aload_n dX11_flue_0 rfl ?_
  refine G_iconst (v := (0 : Int32)) dX11_flue_1 (by decide) ?_
  obtain ⟨c1, hw⟩ := wp_ck hw
  refine G_putI fl_X11_thrown w_1393 dX11_flue_2 c1 ?_
  refine G.nmh fun h2 eh2 => ?_
  have hw := wp_bd hw h2 eh2
  refine G_aload_n dX11_flue_5 rfl ?_
  refine G_iload_n dX11_flue_6 rfl ?_
  obtain ⟨c5, hw⟩ := wp_ck hw
  refine G_callV (As := [.int l1]) (s_X11_isFlue hs l0 l1 h2 _ (wp_cl hw)) ca_X11_isFlue w_1794 w_78 (ci := 10) rfl (by decide) w_1792 c5 (Nat.le_of_ble_eq_true rfl) (Nat.le_of_ble_eq_true rfl) rfl (Nat.le_of_ble_eq_true rfl) (Nat.le_of_ble_eq_true rfl) (Nat.le_of_ble_eq_true rfl) dX11_flue_7 rfl (fun v h4 hq => ?_)
  obtain ⟨r3, rfl, hw⟩ := hq
  refine G.cse (cs' := (0, 0)) rfl ?_
  show GZ _ _ _ _ _ _ _ 10 _ (.int r3 :: []) _ _
  have hw := wp_if hw
  refine G_if_eq (tgt := 22) dX11_flue_10 rfl (fun c6 => ?_) (fun c6 => ?_)
  · have hw := hw.1 c6
    refine G_bipush (v := (-2 : Int32)) dX11_flue_22 (by decide) ?_
    exact G_ireturn rfl dX11_flue_24 ⟨_, rfl, wp_ret hw⟩
  · have hw := hw.2 c6
    refine G_iload_n dX11_flue_13 rfl ?_
    refine G_iconst (v := (0 : Int32)) dX11_flue_14 (by decide) ?_
    refine G_iconst (v := (4 : Int32)) dX11_flue_15 (by decide) ?_
    refine G_callS (As := [.int l2, .int (0 : Int32), .int (4 : Int32)]) (s_X11_within hs l2 (0 : Int32) (4 : Int32) h4 _ (wp_cl hw)) ca_X11_within w_1686 w_1685 (Nat.le_of_ble_eq_true rfl) (Nat.le_of_ble_eq_true rfl) rfl (Nat.le_of_ble_eq_true rfl) (Nat.le_of_ble_eq_true rfl) (Nat.le_of_ble_eq_true rfl) dX11_flue_16 rfl (fun v h8 hq => ?_)
    obtain ⟨r7, rfl, hw⟩ := hq
    refine G.cse (cs' := (0, 0)) rfl ?_
    show GZ _ _ _ _ _ _ _ 19 _ (.int r7 :: []) _ _
    have hw := wp_if hw
    refine G_if_ne (tgt := 25) dX11_flue_19 rfl (fun c9 => ?_) (fun c9 => ?_)
    · have hw := hw.2 c9
      refine G_iload_n dX11_flue_25 rfl ?_
      refine G_iconst (v := (2 : Int32)) dX11_flue_26 (by decide) ?_
      have hw := wp_if hw
      refine G_icmp_ge (tgt := 37) dX11_flue_27 rfl (fun c10 => ?_) (fun c10 => ?_)
      · have hw := hw.1 c10
        refine G_iload_n dX11_flue_37 rfl ?_
        refine G_iconst (v := (2 : Int32)) dX11_flue_38 (by decide) ?_
        have hw := wp_if hw
        refine G_icmp_ne (tgt := 61) dX11_flue_39 rfl (fun c11 => ?_) (fun c11 => ?_)
        · have hw := hw.2 c11
          refine G_iload_n dX11_flue_61 rfl ?_
          refine G_iconst (v := (3 : Int32)) dX11_flue_62 (by decide) ?_
          have hw := wp_if hw
          refine G_icmp_ne (tgt := 78) dX11_flue_63 rfl (fun c12 => ?_) (fun c12 => ?_)
          · have hw := hw.2 c12
            refine G_aload_n dX11_flue_78 rfl ?_
            refine G_iload_n dX11_flue_79 rfl ?_
            obtain ⟨c15, hw⟩ := wp_ck hw
            refine G_callV (As := [.int l1]) (s_X11_housesOf hs l0 l1 h8 _ (wp_cl hw)) ca_X11_housesOf w_1842 w_89 (ci := 10) rfl (by decide) w_1840 c15 (Nat.le_of_ble_eq_true rfl) (Nat.le_of_ble_eq_true rfl) rfl (Nat.le_of_ble_eq_true rfl) (Nat.le_of_ble_eq_true rfl) (Nat.le_of_ble_eq_true rfl) dX11_flue_80 rfl (fun v h14 hq => ?_)
            obtain ⟨r13, rfl, hw⟩ := hq
            refine G.cse (cs' := (0, 0)) rfl ?_
            show GZ _ _ _ _ _ _ _ 83 _ (.int r13 :: []) _ _
            exact G_ireturn rfl dX11_flue_83 ⟨_, rfl, wp_ret hw⟩
          · have hw := hw.1 c12
            refine G_aload_n dX11_flue_66 rfl ?_
            obtain ⟨c16, hw⟩ := wp_ck hw
            refine G_getR fl_X11_s w_1442 dX11_flue_67 c16 ?_
            obtain ⟨a17, ea17, hw⟩ := wp_rq hw
            refine G.sure ea17 ?_
            refine G_bipush (v := (29 : Int32)) dX11_flue_70 (by decide) ?_
            refine G_iload_n dX11_flue_72 rfl ?_
            refine G_iadd dX11_flue_73 ?_
            obtain ⟨c18, hw⟩ := wp_ck hw
            obtain ⟨c19, hw⟩ := wp_ck hw
            refine G_iaload dX11_flue_74 c18 c19 ?_
            refine G_goto (tgt := 83) dX11_flue_75 rfl ?_
            exact G_ireturn rfl dX11_flue_83 ⟨_, rfl, wp_ret hw⟩
        · have hw := hw.1 c11
          refine G_aload_n dX11_flue_42 rfl ?_
          refine G_aload_n dX11_flue_43 rfl ?_
          refine G_iload_n dX11_flue_44 rfl ?_
          refine G_iconst (v := (0 : Int32)) dX11_flue_45 (by decide) ?_
          obtain ⟨c22, hw⟩ := wp_ck hw
          refine G_callV (As := [.int l1, .int (0 : Int32)]) (s_X11_smokeOf hs l0 l1 (0 : Int32) h8 _ (wp_cl hw)) ca_X11_smokeOf w_1798 w_79 (ci := 10) rfl (by decide) w_1796 c22 (Nat.le_of_ble_eq_true rfl) (Nat.le_of_ble_eq_true rfl) rfl (Nat.le_of_ble_eq_true rfl) (Nat.le_of_ble_eq_true rfl) (Nat.le_of_ble_eq_true rfl) dX11_flue_46 rfl (fun v h21 hq => ?_)
          obtain ⟨r20, rfl, hw⟩ := hq
          refine G.cse (cs' := (0, 0)) rfl ?_
          show GZ _ _ _ _ _ _ _ 49 _ (.int r20 :: [.ref l0]) _ _
          refine G_aload_n dX11_flue_49 rfl ?_
          refine G_iload_n dX11_flue_50 rfl ?_
          refine G_iconst (v := (1 : Int32)) dX11_flue_51 (by decide) ?_
          obtain ⟨c25, hw⟩ := wp_ck hw
          refine G_callV (As := [.int l1, .int (1 : Int32)]) (s_X11_smokeOf hs l0 l1 (1 : Int32) h21 _ (wp_cl hw)) ca_X11_smokeOf w_1798 w_79 (ci := 10) rfl (by decide) w_1796 c25 (Nat.le_of_ble_eq_true rfl) (Nat.le_of_ble_eq_true rfl) rfl (Nat.le_of_ble_eq_true rfl) (Nat.le_of_ble_eq_true rfl) (Nat.le_of_ble_eq_true rfl) dX11_flue_52 rfl (fun v h24 hq => ?_)
          obtain ⟨r23, rfl, hw⟩ := hq
          refine G.cse (cs' := (0, 0)) rfl ?_
          show GZ _ _ _ _ _ _ _ 55 _ (.int r23 :: [.int r20, .ref l0]) _ _
          obtain ⟨c28, hw⟩ := wp_ck hw
          refine G_callV (As := [.int r20, .int r23]) (s_X11_signOf hs l0 r20 r23 h24 _ (wp_cl hw)) ca_X11_signOf w_1838 w_88 (ci := 10) rfl (by decide) w_1836 c28 (Nat.le_of_ble_eq_true rfl) (Nat.le_of_ble_eq_true rfl) rfl (Nat.le_of_ble_eq_true rfl) (Nat.le_of_ble_eq_true rfl) (Nat.le_of_ble_eq_true rfl) dX11_flue_55 rfl (fun v h27 hq => ?_)
          obtain ⟨r26, rfl, hw⟩ := hq
          refine G.cse (cs' := (0, 0)) rfl ?_
          show GZ _ _ _ _ _ _ _ 58 _ (.int r26 :: []) _ _
          refine G_goto (tgt := 83) dX11_flue_58 rfl ?_
          exact G_ireturn rfl dX11_flue_83 ⟨_, rfl, wp_ret hw⟩
      · have hw := hw.2 c10
        refine G_aload_n dX11_flue_30 rfl ?_
        refine G_iload_n dX11_flue_31 rfl ?_
        refine G_iload_n dX11_flue_32 rfl ?_
        obtain ⟨c31, hw⟩ := wp_ck hw
        refine G_callV (As := [.int l1, .int l2]) (s_X11_smokeOf hs l0 l1 l2 h8 _ (wp_cl hw)) ca_X11_smokeOf w_1798 w_79 (ci := 10) rfl (by decide) w_1796 c31 (Nat.le_of_ble_eq_true rfl) (Nat.le_of_ble_eq_true rfl) rfl (Nat.le_of_ble_eq_true rfl) (Nat.le_of_ble_eq_true rfl) (Nat.le_of_ble_eq_true rfl) dX11_flue_33 rfl (fun v h30 hq => ?_)
        obtain ⟨r29, rfl, hw⟩ := hq
        refine G.cse (cs' := (0, 0)) rfl ?_
        show GZ _ _ _ _ _ _ _ 36 _ (.int r29 :: []) _ _
        exact G_ireturn rfl dX11_flue_36 ⟨_, rfl, wp_ret hw⟩
    · have hw := hw.1 c9
      refine G_bipush (v := (-2 : Int32)) dX11_flue_22 (by decide) ?_
      exact G_ireturn rfl dX11_flue_24 ⟨_, rfl, wp_ret hw⟩
set_option maxHeartbeats 4000000 in
set_option maxRecDepth 100000 in
theorem f_X11_keeps_49_ok {Γ : GX} (hs : SF Γ) {N : Nat} (l0 : Nat) (h : PH) (Q : Unit → PH → Prop) (hw : wp (f_X11_keeps_49 N l0 h) Q) : G Γ yX11_keeps cX11_keeps 2 none (2, 0, 0) 49 [some (.ref l0), none] [] h (0, 0) (q_u Q) := by
  unfold f_X11_keeps_49 at hw
  refine G_aload_n dX11_keeps_49 rfl ?_
  obtain ⟨c1, hw⟩ := wp_ck hw
  refine G_getR fl_X11_s w_1442 dX11_keeps_50 c1 ?_
  obtain ⟨a2, ea2, hw⟩ := wp_rq hw
  refine G.sure ea2 ?_
  refine G_iconst (v := (0 : Int32)) dX11_keeps_53 (by decide) ?_
  refine G_aload_n dX11_keeps_54 rfl ?_
  refine G_getR fl_X11_undone w_1445 dX11_keeps_55 c1 ?_
  obtain ⟨a3, ea3, hw⟩ := wp_rq hw
  refine G.sure ea3 ?_
  refine G_bipush (v := (32 : Int32)) dX11_keeps_58 (by decide) ?_
  refine G_aload_n dX11_keeps_60 rfl ?_
  refine G_getI fl_X11_done w_1447 dX11_keeps_61 c1 ?_
  refine G_imul dX11_keeps_64 ?_
  refine G_callS (As := [.ref a2, .int (0 : Int32), .ref a3, .int ((32 : Int32) * (hI h l0 54))]) (s_X11_copies hs a2 (0 : Int32) a3 ((32 : Int32) * (hI h l0 54)) h _ (wp_cl hw)) ca_X11_copies w_1861 w_1860 (Nat.le_of_ble_eq_true rfl) (Nat.le_of_ble_eq_true rfl) rfl (Nat.le_of_ble_eq_true rfl) (Nat.le_of_ble_eq_true rfl) (Nat.le_of_ble_eq_true rfl) dX11_keeps_65 rfl (fun v h5 hq => ?_)
  obtain ⟨rfl, hw⟩ := hq
  refine G.cse (cs' := (0, 0)) rfl ?_
  show GZ _ _ _ _ _ _ _ 68 _ [] _ _
  refine G_aload_n dX11_keeps_68 rfl ?_
  refine G_dup dX11_keeps_69 rfl ?_
  obtain ⟨c6, hw⟩ := wp_ck hw
  refine G_getI fl_X11_done w_1447 dX11_keeps_70 c6 ?_
  refine G_iconst (v := (1 : Int32)) dX11_keeps_73 (by decide) ?_
  refine G_iadd dX11_keeps_74 ?_
  refine G_putI fl_X11_done w_1447 dX11_keeps_75 c6 ?_
  refine G.nmh fun h7 eh7 => ?_
  have hw := wp_bd hw h7 eh7
  exact G_vreturn rfl dX11_keeps_78 ⟨rfl, wp_ret hw⟩
set_option maxHeartbeats 4000000 in
set_option maxRecDepth 100000 in
theorem f_X11_keeps_11_bok {Γ : GX} (hs : SF Γ) {N : Nat} {K_11 : Nat → Int32 → PH → Option (Unit × PH)} (hK_11 : ∀ (l0 : Nat) (l1 : Int32) (h : PH) (Q : Unit → PH → Prop), wp (K_11 l0 l1 h) Q → G Γ yX11_keeps cX11_keeps 2 none (2, 0, 0) 11 [some (.ref l0), some (.int l1)] [] h (0, 0) (q_u Q)) (l0 : Nat) (l1 : Int32) (h : PH) (Q : Unit → PH → Prop) (hw : wp (f_X11_keeps_11_b N K_11 l0 l1 h) Q) : G Γ yX11_keeps cX11_keeps 2 none (2, 0, 0) 11 [some (.ref l0), some (.int l1)] [] h (0, 0) (q_u Q) := by
  unfold f_X11_keeps_11_b at hw
  refine G_iload_n dX11_keeps_11 rfl ?_
  refine G_sipush (v := (480 : Int32)) dX11_keeps_12 (by decide) ?_
  have hw := wp_if hw
  refine G_icmp_ge (tgt := 39) dX11_keeps_15 rfl (fun c1 => ?_) (fun c1 => ?_)
  · have hw := hw.1 c1
    refine G_aload_n dX11_keeps_39 rfl ?_
    refine G_dup dX11_keeps_40 rfl ?_
    obtain ⟨c2, hw⟩ := wp_ck hw
    refine G_getI fl_X11_done w_1447 dX11_keeps_41 c2 ?_
    refine G_iconst (v := (1 : Int32)) dX11_keeps_44 (by decide) ?_
    refine G_isub dX11_keeps_45 ?_
    refine G_putI fl_X11_done w_1447 dX11_keeps_46 c2 ?_
    refine G.nmh fun h3 eh3 => ?_
    have hw := wp_bd hw h3 eh3
    refine G.less [some (.ref l0), none] ⟨rfl, trivial⟩ ?_
    exact f_X11_keeps_49_ok hs _ h3 Q hw
  · have hw := hw.2 c1
    refine G_aload_n dX11_keeps_18 rfl ?_
    obtain ⟨c4, hw⟩ := wp_ck hw
    refine G_getR fl_X11_undone w_1445 dX11_keeps_19 c4 ?_
    obtain ⟨a5, ea5, hw⟩ := wp_rq hw
    refine G.sure ea5 ?_
    refine G_iload_n dX11_keeps_22 rfl ?_
    refine G_aload_n dX11_keeps_23 rfl ?_
    refine G_getR fl_X11_undone w_1445 dX11_keeps_24 c4 ?_
    obtain ⟨a6, ea6, hw⟩ := wp_rq hw
    refine G.sure ea6 ?_
    refine G_iload_n dX11_keeps_27 rfl ?_
    refine G_bipush (v := (32 : Int32)) dX11_keeps_28 (by decide) ?_
    refine G_iadd dX11_keeps_30 ?_
    obtain ⟨c7, hw⟩ := wp_ck hw
    obtain ⟨c8, hw⟩ := wp_ck hw
    refine G_iaload dX11_keeps_31 c7 c8 ?_
    obtain ⟨c9, hw⟩ := wp_ck hw
    obtain ⟨c10, hw⟩ := wp_ck hw
    refine G_iastore dX11_keeps_32 c9 c10 ?_
    refine G.nmh fun h11 eh11 => ?_
    have hw := wp_bd hw h11 eh11
    obtain ⟨v12, ev12⟩ : ∃ z : Int32, z = l1 + (1 : Int32) := ⟨_, rfl⟩
    have hw := wp_bd hw v12 ev12
    refine G_iinc (v := v12) (lv' := [some (.ref l0), some (.int v12)]) dX11_keeps_33 rfl (by rw [ev12]; rfl) (Nat.le_of_ble_eq_true rfl) rfl ?_
    refine G_goto (tgt := 11) dX11_keeps_36 rfl ?_
    refine G.less [some (.ref l0), some (.int v12)] ⟨rfl, ⟨rfl, trivial⟩⟩ ?_
    exact hK_11 _ _ h11 Q hw
theorem f_X11_keeps_11_ok {Γ : GX} (hs : SF Γ) {N : Nat} : ∀ (n : Nat) (l0 : Nat) (l1 : Int32) (h : PH) (Q : Unit → PH → Prop), wp (f_X11_keeps_11 N n l0 l1 h) Q → G Γ yX11_keeps cX11_keeps 2 none (2, 0, 0) 11 [some (.ref l0), some (.int l1)] [] h (0, 0) (q_u Q)
  | 0, _, _, _, Q, hw => (wp_no hw).elim
  | n + 1, l0, l1, h, Q, hw => f_X11_keeps_11_bok (N := N) hs (f_X11_keeps_11_ok (N := N) hs n) l0 l1 h Q hw
set_option maxHeartbeats 4000000 in
set_option maxRecDepth 100000 in
theorem s_X11_keeps {Γ : GX} (hs : SF Γ) {N : Nat} (l0 : Nat) (h : PH) (Q : Unit → PH → Prop) (hw : wp (f_X11_keeps N l0 h) Q) : Spec Γ yX11_keeps cX11_keeps 2 none (2, 0, 0) [.ref l0] h (q_u Q) := by
  refine Spec.of (by decide) (Nat.le_of_ble_eq_true rfl) [some (.ref l0), none] rfl ?_
  unfold f_X11_keeps at hw
  refine G_aload_n dX11_keeps_0 rfl ?_
  obtain ⟨c1, hw⟩ := wp_ck hw
  refine G_getI fl_X11_done w_1447 dX11_keeps_1 c1 ?_
  refine G_bipush (v := (16 : Int32)) dX11_keeps_4 (by decide) ?_
  have hw := wp_if hw
  refine G_icmp_ne (tgt := 49) dX11_keeps_6 rfl (fun c2 => ?_) (fun c2 => ?_)
  · have hw := hw.2 c2
    refine G.less [some (.ref l0), none] ⟨rfl, trivial⟩ ?_
    exact f_X11_keeps_49_ok hs _ h Q hw
  · have hw := hw.1 c2
    refine G_iconst (v := (0 : Int32)) dX11_keeps_9 (by decide) ?_
    refine G_istore_n (lv' := [some (.ref l0), some (.int (0 : Int32))]) dX11_keeps_10 (Nat.le_of_ble_eq_true rfl) rfl ?_
    refine G.less [some (.ref l0), some (.int (0 : Int32))] ⟨rfl, ⟨rfl, trivial⟩⟩ ?_
    exact f_X11_keeps_11_ok hs N _ _ h Q hw
set_option maxHeartbeats 4000000 in
set_option maxRecDepth 100000 in
theorem s_X11_burn {Γ : GX} (hs : SF Γ) {N : Nat} (l0 : Nat) (l1 : Int32) (l2 : Int32) (h : PH) (Q : Int32 → PH → Prop) (hw : wp (f_X11_burn N l0 l1 l2 h) Q) : Spec Γ yX11_burn cX11_burn 3 (some .boolean) (3, 0, 0) [.ref l0, .int l1, .int l2] h (q_i Q) := by
  refine Spec.of (by decide) (Nat.le_of_ble_eq_true rfl) [some (.ref l0), some (.int l1), some (.int l2)] rfl ?_
  unfold f_X11_burn at hw
  refine G_aload_n dX11_burn_0 rfl ?_
  refine G_iconst (v := (0 : Int32)) dX11_burn_1 (by decide) ?_
  obtain ⟨c1, hw⟩ := wp_ck hw
  refine G_putI fl_X11_thrown w_1393 dX11_burn_2 c1 ?_
  refine G.nmh fun h2 eh2 => ?_
  have hw := wp_bd hw h2 eh2
  refine G_aload_n dX11_burn_5 rfl ?_
  refine G_iload_n dX11_burn_6 rfl ?_
  obtain ⟨c5, hw⟩ := wp_ck hw
  refine G_callV (As := [.int l1]) (s_X11_isHouse hs l0 l1 h2 _ (wp_cl hw)) ca_X11_isHouse w_1786 w_77 (ci := 10) rfl (by decide) w_1784 c5 (Nat.le_of_ble_eq_true rfl) (Nat.le_of_ble_eq_true rfl) rfl (Nat.le_of_ble_eq_true rfl) (Nat.le_of_ble_eq_true rfl) (Nat.le_of_ble_eq_true rfl) dX11_burn_7 rfl (fun v h4 hq => ?_)
  obtain ⟨r3, rfl, hw⟩ := hq
  refine G.cse (cs' := (0, 0)) rfl ?_
  show GZ _ _ _ _ _ _ _ 10 _ (.int r3 :: []) _ _
  have hw := wp_if hw
  refine G_if_eq (tgt := 30) dX11_burn_10 rfl (fun c6 => ?_) (fun c6 => ?_)
  · have hw := hw.1 c6
    refine G_iconst (v := (0 : Int32)) dX11_burn_30 (by decide) ?_
    exact G_zreturn rfl dX11_burn_31 rfl ⟨_, rfl, wp_ret hw⟩
  · have hw := hw.2 c6
    refine G_aload_n dX11_burn_13 rfl ?_
    refine G_iload_n dX11_burn_14 rfl ?_
    obtain ⟨c9, hw⟩ := wp_ck hw
    refine G_callV (As := [.int l2]) (s_X11_isFuel hs l0 l2 h4 _ (wp_cl hw)) ca_X11_isFuel w_1850 w_90 (ci := 10) rfl (by decide) w_1848 c9 (Nat.le_of_ble_eq_true rfl) (Nat.le_of_ble_eq_true rfl) rfl (Nat.le_of_ble_eq_true rfl) (Nat.le_of_ble_eq_true rfl) (Nat.le_of_ble_eq_true rfl) dX11_burn_15 rfl (fun v h8 hq => ?_)
    obtain ⟨r7, rfl, hw⟩ := hq
    refine G.cse (cs' := (0, 0)) rfl ?_
    show GZ _ _ _ _ _ _ _ 18 _ (.int r7 :: []) _ _
    have hw := wp_if hw
    refine G_if_eq (tgt := 30) dX11_burn_18 rfl (fun c10 => ?_) (fun c10 => ?_)
    · have hw := hw.1 c10
      refine G_iconst (v := (0 : Int32)) dX11_burn_30 (by decide) ?_
      exact G_zreturn rfl dX11_burn_31 rfl ⟨_, rfl, wp_ret hw⟩
    · have hw := hw.2 c10
      refine G_aload_n dX11_burn_21 rfl ?_
      refine G_iload_n dX11_burn_22 rfl ?_
      refine G_iload_n dX11_burn_23 rfl ?_
      obtain ⟨c13, hw⟩ := wp_ck hw
      refine G_callV (As := [.int l1, .int l2]) (s_X11_canBurn hs l0 l1 l2 h8 _ (wp_cl hw)) ca_X11_canBurn w_1854 w_91 (ci := 10) rfl (by decide) w_1852 c13 (Nat.le_of_ble_eq_true rfl) (Nat.le_of_ble_eq_true rfl) rfl (Nat.le_of_ble_eq_true rfl) (Nat.le_of_ble_eq_true rfl) (Nat.le_of_ble_eq_true rfl) dX11_burn_24 rfl (fun v h12 hq => ?_)
      obtain ⟨r11, rfl, hw⟩ := hq
      refine G.cse (cs' := (0, 0)) rfl ?_
      show GZ _ _ _ _ _ _ _ 27 _ (.int r11 :: []) _ _
      have hw := wp_if hw
      refine G_if_ne (tgt := 32) dX11_burn_27 rfl (fun c14 => ?_) (fun c14 => ?_)
      · have hw := hw.2 c14
        refine G_aload_n dX11_burn_32 rfl ?_
        obtain ⟨c17, hw⟩ := wp_ck hw
        refine G_callV (As := []) (s_X11_keeps hs l0 h12 _ (wp_cl hw)) ca_X11_keeps w_1858 w_92 (ci := 10) rfl (by decide) w_1856 c17 (Nat.le_of_ble_eq_true rfl) (Nat.le_of_ble_eq_true rfl) rfl (Nat.le_of_ble_eq_true rfl) (Nat.le_of_ble_eq_true rfl) (Nat.le_of_ble_eq_true rfl) dX11_burn_33 rfl (fun v h16 hq => ?_)
        obtain ⟨rfl, hw⟩ := hq
        refine G.cse (cs' := (0, 0)) rfl ?_
        show GZ _ _ _ _ _ _ _ 36 _ [] _ _
        refine G_aload_n dX11_burn_36 rfl ?_
        refine G_iload_n dX11_burn_37 rfl ?_
        refine G_iload_n dX11_burn_38 rfl ?_
        obtain ⟨c20, hw⟩ := wp_ck hw
        refine G_callV (As := [.int l1, .int l2]) (s_X11_lights hs l0 l1 l2 h16 _ (wp_cl hw)) ca_X11_lights w_1865 w_93 (ci := 10) rfl (by decide) w_1863 c20 (Nat.le_of_ble_eq_true rfl) (Nat.le_of_ble_eq_true rfl) rfl (Nat.le_of_ble_eq_true rfl) (Nat.le_of_ble_eq_true rfl) (Nat.le_of_ble_eq_true rfl) dX11_burn_39 rfl (fun v h19 hq => ?_)
        obtain ⟨rfl, hw⟩ := hq
        refine G.cse (cs' := (0, 0)) rfl ?_
        show GZ _ _ _ _ _ _ _ 42 _ [] _ _
        refine G_iconst (v := (1 : Int32)) dX11_burn_42 (by decide) ?_
        exact G_zreturn rfl dX11_burn_43 rfl ⟨_, rfl, wp_ret hw⟩
      · have hw := hw.1 c14
        refine G_iconst (v := (0 : Int32)) dX11_burn_30 (by decide) ?_
        exact G_zreturn rfl dX11_burn_31 rfl ⟨_, rfl, wp_ret hw⟩
set_option maxHeartbeats 4000000 in
set_option maxRecDepth 100000 in
theorem s_X11_lend {Γ : GX} (hs : SF Γ) {N : Nat} (l0 : Nat) (l1 : Int32) (l2 : Int32) (l3 : Int32) (l4 : Int32) (h : PH) (Q : Int32 → PH → Prop) (hw : wp (f_X11_lend N l0 l1 l2 l3 l4 h) Q) : Spec Γ yX11_lend cX11_lend 5 (some .int) (3, 0, 0) [.ref l0, .int l1, .int l2, .int l3, .int l4] h (q_i Q) := by
  refine Spec.of (by decide) (Nat.le_of_ble_eq_true rfl) [some (.ref l0), some (.int l1), some (.int l2), some (.int l3), some (.int l4)] rfl ?_
  unfold f_X11_lend at hw
  refine G_aload_n dX11_lend_0 rfl ?_
  refine G_iconst (v := (0 : Int32)) dX11_lend_1 (by decide) ?_
  obtain ⟨c1, hw⟩ := wp_ck hw
  refine G_putI fl_X11_thrown w_1393 dX11_lend_2 c1 ?_
  refine G.nmh fun h2 eh2 => ?_
  have hw := wp_bd hw h2 eh2
  refine G_aload_n dX11_lend_5 rfl ?_
  refine G_iload_n dX11_lend_6 rfl ?_
  obtain ⟨c5, hw⟩ := wp_ck hw
  refine G_callV (As := [.int l1]) (s_X11_isHouse hs l0 l1 h2 _ (wp_cl hw)) ca_X11_isHouse w_1786 w_77 (ci := 10) rfl (by decide) w_1784 c5 (Nat.le_of_ble_eq_true rfl) (Nat.le_of_ble_eq_true rfl) rfl (Nat.le_of_ble_eq_true rfl) (Nat.le_of_ble_eq_true rfl) (Nat.le_of_ble_eq_true rfl) dX11_lend_7 rfl (fun v h4 hq => ?_)
  obtain ⟨r3, rfl, hw⟩ := hq
  refine G.cse (cs' := (0, 0)) rfl ?_
  show GZ _ _ _ _ _ _ _ 10 _ (.int r3 :: []) _ _
  have hw := wp_if hw
  refine G_if_eq (tgt := 63) dX11_lend_10 rfl (fun c6 => ?_) (fun c6 => ?_)
  · have hw := hw.1 c6
    refine G_iconst (v := (-1 : Int32)) dX11_lend_63 (by decide) ?_
    exact G_ireturn rfl dX11_lend_64 ⟨_, rfl, wp_ret hw⟩
  · have hw := hw.2 c6
    refine G_aload_n dX11_lend_13 rfl ?_
    refine G_iload_n dX11_lend_14 rfl ?_
    obtain ⟨c9, hw⟩ := wp_ck hw
    refine G_callV (As := [.int l2]) (s_X11_isHouse hs l0 l2 h4 _ (wp_cl hw)) ca_X11_isHouse w_1786 w_77 (ci := 10) rfl (by decide) w_1784 c9 (Nat.le_of_ble_eq_true rfl) (Nat.le_of_ble_eq_true rfl) rfl (Nat.le_of_ble_eq_true rfl) (Nat.le_of_ble_eq_true rfl) (Nat.le_of_ble_eq_true rfl) dX11_lend_15 rfl (fun v h8 hq => ?_)
    obtain ⟨r7, rfl, hw⟩ := hq
    refine G.cse (cs' := (0, 0)) rfl ?_
    show GZ _ _ _ _ _ _ _ 18 _ (.int r7 :: []) _ _
    have hw := wp_if hw
    refine G_if_eq (tgt := 63) dX11_lend_18 rfl (fun c10 => ?_) (fun c10 => ?_)
    · have hw := hw.1 c10
      refine G_iconst (v := (-1 : Int32)) dX11_lend_63 (by decide) ?_
      exact G_ireturn rfl dX11_lend_64 ⟨_, rfl, wp_ret hw⟩
    · have hw := hw.2 c10
      refine G_iload_n dX11_lend_21 rfl ?_
      refine G_iload_n dX11_lend_22 rfl ?_
      have hw := wp_if hw
      refine G_icmp_eq (tgt := 63) dX11_lend_23 rfl (fun c11 => ?_) (fun c11 => ?_)
      · have hw := hw.1 c11
        refine G_iconst (v := (-1 : Int32)) dX11_lend_63 (by decide) ?_
        exact G_ireturn rfl dX11_lend_64 ⟨_, rfl, wp_ret hw⟩
      · have hw := hw.2 c11
        refine G_aload_n dX11_lend_26 rfl ?_
        refine G_iload_n dX11_lend_27 rfl ?_
        obtain ⟨c14, hw⟩ := wp_ck hw
        refine G_callV (As := [.int l3]) (s_X11_isFuel hs l0 l3 h8 _ (wp_cl hw)) ca_X11_isFuel w_1850 w_90 (ci := 10) rfl (by decide) w_1848 c14 (Nat.le_of_ble_eq_true rfl) (Nat.le_of_ble_eq_true rfl) rfl (Nat.le_of_ble_eq_true rfl) (Nat.le_of_ble_eq_true rfl) (Nat.le_of_ble_eq_true rfl) dX11_lend_28 rfl (fun v h13 hq => ?_)
        obtain ⟨r12, rfl, hw⟩ := hq
        refine G.cse (cs' := (0, 0)) rfl ?_
        show GZ _ _ _ _ _ _ _ 31 _ (.int r12 :: []) _ _
        have hw := wp_if hw
        refine G_if_eq (tgt := 63) dX11_lend_31 rfl (fun c15 => ?_) (fun c15 => ?_)
        · have hw := hw.1 c15
          refine G_iconst (v := (-1 : Int32)) dX11_lend_63 (by decide) ?_
          exact G_ireturn rfl dX11_lend_64 ⟨_, rfl, wp_ret hw⟩
        · have hw := hw.2 c15
          refine G_iload dX11_lend_34 rfl ?_
          refine G_iconst (v := (1 : Int32)) dX11_lend_36 (by decide) ?_
          refine G_bipush (v := (99 : Int32)) dX11_lend_37 (by decide) ?_
          refine G_callS (As := [.int l4, .int (1 : Int32), .int (99 : Int32)]) (s_X11_within hs l4 (1 : Int32) (99 : Int32) h13 _ (wp_cl hw)) ca_X11_within w_1686 w_1685 (Nat.le_of_ble_eq_true rfl) (Nat.le_of_ble_eq_true rfl) rfl (Nat.le_of_ble_eq_true rfl) (Nat.le_of_ble_eq_true rfl) (Nat.le_of_ble_eq_true rfl) dX11_lend_39 rfl (fun v h17 hq => ?_)
          obtain ⟨r16, rfl, hw⟩ := hq
          refine G.cse (cs' := (0, 0)) rfl ?_
          show GZ _ _ _ _ _ _ _ 42 _ (.int r16 :: []) _ _
          have hw := wp_if hw
          refine G_if_eq (tgt := 63) dX11_lend_42 rfl (fun c18 => ?_) (fun c18 => ?_)
          · have hw := hw.1 c18
            refine G_iconst (v := (-1 : Int32)) dX11_lend_63 (by decide) ?_
            exact G_ireturn rfl dX11_lend_64 ⟨_, rfl, wp_ret hw⟩
          · have hw := hw.2 c18
            refine G_aload_n dX11_lend_45 rfl ?_
            obtain ⟨c19, hw⟩ := wp_ck hw
            refine G_getR fl_X11_s w_1442 dX11_lend_46 c19 ?_
            obtain ⟨a20, ea20, hw⟩ := wp_rq hw
            refine G.sure ea20 ?_
            refine G_bipush (v := (9 : Int32)) dX11_lend_49 (by decide) ?_
            refine G_iconst (v := (5 : Int32)) dX11_lend_51 (by decide) ?_
            refine G_iload_n dX11_lend_52 rfl ?_
            refine G_imul dX11_lend_53 ?_
            refine G_iadd dX11_lend_54 ?_
            refine G_iload_n dX11_lend_55 rfl ?_
            refine G_iadd dX11_lend_56 ?_
            obtain ⟨c21, hw⟩ := wp_ck hw
            obtain ⟨c22, hw⟩ := wp_ck hw
            refine G_iaload dX11_lend_57 c21 c22 ?_
            refine G_iload dX11_lend_58 rfl ?_
            have hw := wp_if hw
            refine G_icmp_ge (tgt := 65) dX11_lend_60 rfl (fun c23 => ?_) (fun c23 => ?_)
            · have hw := hw.1 c23
              refine G_aload_n dX11_lend_65 rfl ?_
              refine G_callV (As := []) (s_X11_keeps hs l0 h17 _ (wp_cl hw)) ca_X11_keeps w_1858 w_92 (ci := 10) rfl (by decide) w_1856 c19 (Nat.le_of_ble_eq_true rfl) (Nat.le_of_ble_eq_true rfl) rfl (Nat.le_of_ble_eq_true rfl) (Nat.le_of_ble_eq_true rfl) (Nat.le_of_ble_eq_true rfl) dX11_lend_66 rfl (fun v h25 hq => ?_)
              obtain ⟨rfl, hw⟩ := hq
              refine G.cse (cs' := (0, 0)) rfl ?_
              show GZ _ _ _ _ _ _ _ 69 _ [] _ _
              refine G_aload_n dX11_lend_69 rfl ?_
              refine G_iload_n dX11_lend_70 rfl ?_
              refine G_iload_n dX11_lend_71 rfl ?_
              refine G_iload_n dX11_lend_72 rfl ?_
              refine G_iload dX11_lend_73 rfl ?_
              obtain ⟨c28, hw⟩ := wp_ck hw
              refine G_callV (As := [.int l1, .int l2, .int l3, .int l4]) (s_X11_lends hs l0 l1 l2 l3 l4 h25 _ (wp_cl hw)) ca_X11_lends w_1873 w_94 (ci := 10) rfl (by decide) w_1871 c28 (Nat.le_of_ble_eq_true rfl) (Nat.le_of_ble_eq_true rfl) rfl (Nat.le_of_ble_eq_true rfl) (Nat.le_of_ble_eq_true rfl) (Nat.le_of_ble_eq_true rfl) dX11_lend_75 rfl (fun v h27 hq => ?_)
              obtain ⟨rfl, hw⟩ := hq
              refine G.cse (cs' := (0, 0)) rfl ?_
              show GZ _ _ _ _ _ _ _ 78 _ [] _ _
              refine G_aload_n dX11_lend_78 rfl ?_
              obtain ⟨c29, hw⟩ := wp_ck hw
              refine G_getR fl_X11_s w_1442 dX11_lend_79 c29 ?_
              obtain ⟨a30, ea30, hw⟩ := wp_rq hw
              refine G.sure ea30 ?_
              refine G_bipush (v := (9 : Int32)) dX11_lend_82 (by decide) ?_
              refine G_iconst (v := (5 : Int32)) dX11_lend_84 (by decide) ?_
              refine G_iload_n dX11_lend_85 rfl ?_
              refine G_imul dX11_lend_86 ?_
              refine G_iadd dX11_lend_87 ?_
              refine G_iload_n dX11_lend_88 rfl ?_
              refine G_iadd dX11_lend_89 ?_
              obtain ⟨c31, hw⟩ := wp_ck hw
              obtain ⟨c32, hw⟩ := wp_ck hw
              refine G_iaload dX11_lend_90 c31 c32 ?_
              exact G_ireturn rfl dX11_lend_91 ⟨_, rfl, wp_ret hw⟩
            · have hw := hw.2 c23
              refine G_iconst (v := (-1 : Int32)) dX11_lend_63 (by decide) ?_
              exact G_ireturn rfl dX11_lend_64 ⟨_, rfl, wp_ret hw⟩
set_option maxHeartbeats 4000000 in
set_option maxRecDepth 100000 in
theorem s_X11_hour {Γ : GX} (hs : SF Γ) {N : Nat} (l0 : Nat) (h : PH) (Q : Int32 → PH → Prop) (hw : wp (f_X11_hour N l0 h) Q) : Spec Γ yX11_hour cX11_hour 1 (some .int) (8, 0, 0) [.ref l0] h (q_i Q) := by
  refine Spec.of (by decide) (Nat.le_of_ble_eq_true rfl) [some (.ref l0)] rfl ?_
  unfold f_X11_hour at hw
  refine G_aload_n dX11_hour_0 rfl ?_
  refine G_iconst (v := (0 : Int32)) dX11_hour_1 (by decide) ?_
  obtain ⟨c1, hw⟩ := wp_ck hw
  refine G_putI fl_X11_thrown w_1393 dX11_hour_2 c1 ?_
  refine G.nmh fun h2 eh2 => ?_
  have hw := wp_bd hw h2 eh2
  refine G_aload_n dX11_hour_5 rfl ?_
  obtain ⟨c5, hw⟩ := wp_ck hw
  refine G_callV (As := []) (s_X11_keeps hs l0 h2 _ (wp_cl hw)) ca_X11_keeps w_1858 w_92 (ci := 10) rfl (by decide) w_1856 c5 (Nat.le_of_ble_eq_true rfl) (Nat.le_of_ble_eq_true rfl) rfl (Nat.le_of_ble_eq_true rfl) (Nat.le_of_ble_eq_true rfl) (Nat.le_of_ble_eq_true rfl) dX11_hour_6 rfl (fun v h4 hq => ?_)
  obtain ⟨rfl, hw⟩ := hq
  refine G.cse (cs' := (0, 0)) rfl ?_
  show GZ _ _ _ _ _ _ _ 9 _ [] _ _
  refine G_aload_n dX11_hour_9 rfl ?_
  obtain ⟨c6, hw⟩ := wp_ck hw
  refine G_getR fl_X11_seens w_1438 dX11_hour_10 c6 ?_
  obtain ⟨a7, ea7, hw⟩ := wp_rq hw
  refine G.sure ea7 ?_
  refine G_iconst (v := (0 : Int32)) dX11_hour_13 (by decide) ?_
  refine G_iconst (v := (0 : Int32)) dX11_hour_14 (by decide) ?_
  obtain ⟨c8, hw⟩ := wp_ck hw
  obtain ⟨c9, hw⟩ := wp_ck hw
  refine G_iastoreK (k := 0) dX11_hour_15 c8 (by decide) rfl c9 ?_
  refine G.nmh fun h10 eh10 => ?_
  have hw := wp_bd hw h10 eh10
  refine G_aload_n dX11_hour_16 rfl ?_
  obtain ⟨c13, hw⟩ := wp_ck hw
  refine G_callV (As := []) (s_X11_passes hs l0 h10 _ (wp_cl hw)) ca_X11_passes w_1881 w_95 (ci := 10) rfl (by decide) w_1879 c13 (Nat.le_of_ble_eq_true rfl) (Nat.le_of_ble_eq_true rfl) rfl (Nat.le_of_ble_eq_true rfl) (Nat.le_of_ble_eq_true rfl) (Nat.le_of_ble_eq_true rfl) dX11_hour_17 rfl (fun v h12 hq => ?_)
  obtain ⟨r11, rfl, hw⟩ := hq
  refine G.cse (cs' := (0, 0)) rfl ?_
  show GZ _ _ _ _ _ _ _ 20 _ (.int r11 :: []) _ _
  exact G_ireturn rfl dX11_hour_20 ⟨_, rfl, wp_ret hw⟩
set_option maxHeartbeats 4000000 in
set_option maxRecDepth 100000 in
theorem s_X11_undo {Γ : GX} (hs : SF Γ) {N : Nat} (l0 : Nat) (h : PH) (Q : Int32 → PH → Prop) (hw : wp (f_X11_undo N l0 h) Q) : Spec Γ yX11_undo cX11_undo 1 (some .boolean) (2, 0, 0) [.ref l0] h (q_i Q) := by
  refine Spec.of (by decide) (Nat.le_of_ble_eq_true rfl) [some (.ref l0)] rfl ?_
  unfold f_X11_undo at hw
  refine G_aload_n dX11_undo_0 rfl ?_
  refine G_iconst (v := (0 : Int32)) dX11_undo_1 (by decide) ?_
  obtain ⟨c1, hw⟩ := wp_ck hw
  refine G_putI fl_X11_thrown w_1393 dX11_undo_2 c1 ?_
  refine G.nmh fun h2 eh2 => ?_
  have hw := wp_bd hw h2 eh2
  refine G_aload_n dX11_undo_5 rfl ?_
  obtain ⟨c3, hw⟩ := wp_ck hw
  refine G_getI fl_X11_done w_1447 dX11_undo_6 c3 ?_
  have hw := wp_if hw
  refine G_if_ne (tgt := 14) dX11_undo_9 rfl (fun c4 => ?_) (fun c4 => ?_)
  · have hw := hw.2 c4
    refine G_aload_n dX11_undo_14 rfl ?_
    refine G_dup dX11_undo_15 rfl ?_
    refine G_getI fl_X11_done w_1447 dX11_undo_16 c3 ?_
    refine G_iconst (v := (1 : Int32)) dX11_undo_19 (by decide) ?_
    refine G_isub dX11_undo_20 ?_
    refine G_putI fl_X11_done w_1447 dX11_undo_21 c3 ?_
    refine G.nmh fun h5 eh5 => ?_
    have hw := wp_bd hw h5 eh5
    refine G_aload_n dX11_undo_24 rfl ?_
    obtain ⟨c6, hw⟩ := wp_ck hw
    refine G_getR fl_X11_undone w_1445 dX11_undo_25 c6 ?_
    obtain ⟨a7, ea7, hw⟩ := wp_rq hw
    refine G.sure ea7 ?_
    refine G_bipush (v := (32 : Int32)) dX11_undo_28 (by decide) ?_
    refine G_aload_n dX11_undo_30 rfl ?_
    refine G_getI fl_X11_done w_1447 dX11_undo_31 c6 ?_
    refine G_imul dX11_undo_34 ?_
    refine G_aload_n dX11_undo_35 rfl ?_
    refine G_getR fl_X11_s w_1442 dX11_undo_36 c6 ?_
    obtain ⟨a8, ea8, hw⟩ := wp_rq hw
    refine G.sure ea8 ?_
    refine G_iconst (v := (0 : Int32)) dX11_undo_39 (by decide) ?_
    refine G_callS (As := [.ref a7, .int ((32 : Int32) * (hI h5 l0 54)), .ref a8, .int (0 : Int32)]) (s_X11_copies hs a7 ((32 : Int32) * (hI h5 l0 54)) a8 (0 : Int32) h5 _ (wp_cl hw)) ca_X11_copies w_1861 w_1860 (Nat.le_of_ble_eq_true rfl) (Nat.le_of_ble_eq_true rfl) rfl (Nat.le_of_ble_eq_true rfl) (Nat.le_of_ble_eq_true rfl) (Nat.le_of_ble_eq_true rfl) dX11_undo_40 rfl (fun v h10 hq => ?_)
    obtain ⟨rfl, hw⟩ := hq
    refine G.cse (cs' := (0, 0)) rfl ?_
    show GZ _ _ _ _ _ _ _ 43 _ [] _ _
    refine G_aload_n dX11_undo_43 rfl ?_
    obtain ⟨c11, hw⟩ := wp_ck hw
    refine G_getR fl_X11_seens w_1438 dX11_undo_44 c11 ?_
    obtain ⟨a12, ea12, hw⟩ := wp_rq hw
    refine G.sure ea12 ?_
    refine G_iconst (v := (0 : Int32)) dX11_undo_47 (by decide) ?_
    refine G_iconst (v := (0 : Int32)) dX11_undo_48 (by decide) ?_
    obtain ⟨c13, hw⟩ := wp_ck hw
    obtain ⟨c14, hw⟩ := wp_ck hw
    refine G_iastoreK (k := 0) dX11_undo_49 c13 (by decide) rfl c14 ?_
    refine G.nmh fun h15 eh15 => ?_
    have hw := wp_bd hw h15 eh15
    refine G_iconst (v := (1 : Int32)) dX11_undo_50 (by decide) ?_
    exact G_zreturn rfl dX11_undo_51 rfl ⟨_, rfl, wp_ret hw⟩
  · have hw := hw.1 c4
    refine G_iconst (v := (0 : Int32)) dX11_undo_12 (by decide) ?_
    exact G_zreturn rfl dX11_undo_13 rfl ⟨_, rfl, wp_ret hw⟩
set_option maxHeartbeats 4000000 in
set_option maxRecDepth 100000 in
theorem s_X11_goes {Γ : GX} (hs : SF Γ) {N : Nat} (l0 : Nat) (l1 : Int32) (h : PH) (Q : Int32 → PH → Prop) (hw : wp (f_X11_goes N l0 l1 h) Q) : Spec Γ yX11_goes cX11_goes 3 (some .boolean) (3, 0, 0) [.ref l0, .int l1] h (q_i Q) := by
  refine Spec.of (by decide) (Nat.le_of_ble_eq_true rfl) [some (.ref l0), some (.int l1), none] rfl ?_
  unfold f_X11_goes at hw
  refine G_aload_n dX11_goes_0 rfl ?_
  obtain ⟨c1, hw⟩ := wp_ck hw
  refine G_getR fl_X11_lineA w_1434 dX11_goes_1 c1 ?_
  obtain ⟨a2, ea2, hw⟩ := wp_rq hw
  refine G.sure ea2 ?_
  refine G_iload_n dX11_goes_4 rfl ?_
  obtain ⟨c3, hw⟩ := wp_ck hw
  obtain ⟨c4, hw⟩ := wp_ck hw
  refine G_iaload dX11_goes_5 c3 c4 ?_
  refine G.topi fun v5 ev5 => ?_
  have hw := wp_bd hw v5 ev5
  refine G_istore_n (lv' := [some (.ref l0), some (.int l1), some (.int v5)]) dX11_goes_6 (Nat.le_of_ble_eq_true rfl) rfl ?_
  refine G_aload_n dX11_goes_7 rfl ?_
  refine G_getR fl_X11_lineWhat w_1433 dX11_goes_8 c1 ?_
  obtain ⟨a6, ea6, hw⟩ := wp_rq hw
  refine G.sure ea6 ?_
  refine G_iload_n dX11_goes_11 rfl ?_
  obtain ⟨c7, hw⟩ := wp_ck hw
  obtain ⟨c8, hw⟩ := wp_ck hw
  refine G_iaload dX11_goes_12 c7 c8 ?_
  have hw := wp_if hw
  refine G_if_ne (tgt := 45) dX11_goes_13 rfl (fun c9 => ?_) (fun c9 => ?_)
  · have hw := hw.2 c9
    refine G_aload_n dX11_goes_45 rfl ?_
    refine G_getR fl_X11_s w_1442 dX11_goes_46 c1 ?_
    obtain ⟨a10, ea10, hw⟩ := wp_rq hw
    refine G.sure ea10 ?_
    refine G_bipush (v := (9 : Int32)) dX11_goes_49 (by decide) ?_
    refine G_iconst (v := (5 : Int32)) dX11_goes_51 (by decide) ?_
    refine G_iload_n dX11_goes_52 rfl ?_
    refine G_imul dX11_goes_53 ?_
    refine G_iadd dX11_goes_54 ?_
    refine G_aload_n dX11_goes_55 rfl ?_
    refine G_getR fl_X11_lineC w_1436 dX11_goes_56 c1 ?_
    obtain ⟨a11, ea11, hw⟩ := wp_rq hw
    refine G.sure ea11 ?_
    refine G_iload_n dX11_goes_59 rfl ?_
    obtain ⟨c12, hw⟩ := wp_ck hw
    obtain ⟨c13, hw⟩ := wp_ck hw
    refine G_iaload dX11_goes_60 c12 c13 ?_
    refine G_iadd dX11_goes_61 ?_
    obtain ⟨c14, hw⟩ := wp_ck hw
    obtain ⟨c15, hw⟩ := wp_ck hw
    refine G_iaload dX11_goes_62 c14 c15 ?_
    refine G_aload_n dX11_goes_63 rfl ?_
    refine G_getR fl_X11_lineN w_1437 dX11_goes_64 c1 ?_
    obtain ⟨a16, ea16, hw⟩ := wp_rq hw
    refine G.sure ea16 ?_
    refine G_iload_n dX11_goes_67 rfl ?_
    obtain ⟨c17, hw⟩ := wp_ck hw
    obtain ⟨c18, hw⟩ := wp_ck hw
    refine G_iaload dX11_goes_68 c17 c18 ?_
    have hw := wp_if hw
    refine G_icmp_ge (tgt := 74) dX11_goes_69 rfl (fun c19 => ?_) (fun c19 => ?_)
    · have hw := hw.1 c19
      refine G_aload_n dX11_goes_74 rfl ?_
      refine G_iload_n dX11_goes_75 rfl ?_
      refine G_aload_n dX11_goes_76 rfl ?_
      refine G_getR fl_X11_lineB w_1435 dX11_goes_77 c1 ?_
      obtain ⟨a20, ea20, hw⟩ := wp_rq hw
      refine G.sure ea20 ?_
      refine G_iload_n dX11_goes_80 rfl ?_
      obtain ⟨c21, hw⟩ := wp_ck hw
      obtain ⟨c22, hw⟩ := wp_ck hw
      refine G_iaload dX11_goes_81 c21 c22 ?_
      refine G_aload_n dX11_goes_82 rfl ?_
      refine G_getR fl_X11_lineC w_1436 dX11_goes_83 c1 ?_
      obtain ⟨a23, ea23, hw⟩ := wp_rq hw
      refine G.sure ea23 ?_
      refine G_iload_n dX11_goes_86 rfl ?_
      obtain ⟨c24, hw⟩ := wp_ck hw
      obtain ⟨c25, hw⟩ := wp_ck hw
      refine G_iaload dX11_goes_87 c24 c25 ?_
      refine G_aload_n dX11_goes_88 rfl ?_
      refine G_getR fl_X11_lineN w_1437 dX11_goes_89 c1 ?_
      obtain ⟨a26, ea26, hw⟩ := wp_rq hw
      refine G.sure ea26 ?_
      refine G_iload_n dX11_goes_92 rfl ?_
      obtain ⟨c27, hw⟩ := wp_ck hw
      obtain ⟨c28, hw⟩ := wp_ck hw
      refine G_iaload dX11_goes_93 c27 c28 ?_
      refine G_callV (As := [.int v5, .int (hI h a20 (ix l1)), .int (hI h a23 (ix l1)), .int (hI h a26 (ix l1))]) (s_X11_lends hs l0 v5 (hI h a20 (ix l1)) (hI h a23 (ix l1)) (hI h a26 (ix l1)) h _ (wp_cl hw)) ca_X11_lends w_1873 w_94 (ci := 10) rfl (by decide) w_1871 c1 (Nat.le_of_ble_eq_true rfl) (Nat.le_of_ble_eq_true rfl) rfl (Nat.le_of_ble_eq_true rfl) (Nat.le_of_ble_eq_true rfl) (Nat.le_of_ble_eq_true rfl) dX11_goes_94 rfl (fun v h30 hq => ?_)
      obtain ⟨rfl, hw⟩ := hq
      refine G.cse (cs' := (0, 0)) rfl ?_
      show GZ _ _ _ _ _ _ _ 97 _ [] _ _
      refine G_iconst (v := (1 : Int32)) dX11_goes_97 (by decide) ?_
      exact G_zreturn rfl dX11_goes_98 rfl ⟨_, rfl, wp_ret hw⟩
    · have hw := hw.2 c19
      refine G_iconst (v := (0 : Int32)) dX11_goes_72 (by decide) ?_
      exact G_zreturn rfl dX11_goes_73 rfl ⟨_, rfl, wp_ret hw⟩
  · have hw := hw.1 c9
    refine G_aload_n dX11_goes_16 rfl ?_
    refine G_iload_n dX11_goes_17 rfl ?_
    refine G_aload_n dX11_goes_18 rfl ?_
    refine G_getR fl_X11_lineB w_1435 dX11_goes_19 c1 ?_
    obtain ⟨a31, ea31, hw⟩ := wp_rq hw
    refine G.sure ea31 ?_
    refine G_iload_n dX11_goes_22 rfl ?_
    obtain ⟨c32, hw⟩ := wp_ck hw
    obtain ⟨c33, hw⟩ := wp_ck hw
    refine G_iaload dX11_goes_23 c32 c33 ?_
    refine G_callV (As := [.int v5, .int (hI h a31 (ix l1))]) (s_X11_canBurn hs l0 v5 (hI h a31 (ix l1)) h _ (wp_cl hw)) ca_X11_canBurn w_1854 w_91 (ci := 10) rfl (by decide) w_1852 c1 (Nat.le_of_ble_eq_true rfl) (Nat.le_of_ble_eq_true rfl) rfl (Nat.le_of_ble_eq_true rfl) (Nat.le_of_ble_eq_true rfl) (Nat.le_of_ble_eq_true rfl) dX11_goes_24 rfl (fun v h35 hq => ?_)
    obtain ⟨r34, rfl, hw⟩ := hq
    refine G.cse (cs' := (0, 0)) rfl ?_
    show GZ _ _ _ _ _ _ _ 27 _ (.int r34 :: []) _ _
    have hw := wp_if hw
    refine G_if_ne (tgt := 32) dX11_goes_27 rfl (fun c36 => ?_) (fun c36 => ?_)
    · have hw := hw.2 c36
      refine G_aload_n dX11_goes_32 rfl ?_
      refine G_iload_n dX11_goes_33 rfl ?_
      refine G_aload_n dX11_goes_34 rfl ?_
      obtain ⟨c37, hw⟩ := wp_ck hw
      refine G_getR fl_X11_lineB w_1435 dX11_goes_35 c37 ?_
      obtain ⟨a38, ea38, hw⟩ := wp_rq hw
      refine G.sure ea38 ?_
      refine G_iload_n dX11_goes_38 rfl ?_
      obtain ⟨c39, hw⟩ := wp_ck hw
      obtain ⟨c40, hw⟩ := wp_ck hw
      refine G_iaload dX11_goes_39 c39 c40 ?_
      refine G_callV (As := [.int v5, .int (hI h35 a38 (ix l1))]) (s_X11_lights hs l0 v5 (hI h35 a38 (ix l1)) h35 _ (wp_cl hw)) ca_X11_lights w_1865 w_93 (ci := 10) rfl (by decide) w_1863 c37 (Nat.le_of_ble_eq_true rfl) (Nat.le_of_ble_eq_true rfl) rfl (Nat.le_of_ble_eq_true rfl) (Nat.le_of_ble_eq_true rfl) (Nat.le_of_ble_eq_true rfl) dX11_goes_40 rfl (fun v h42 hq => ?_)
      obtain ⟨rfl, hw⟩ := hq
      refine G.cse (cs' := (0, 0)) rfl ?_
      show GZ _ _ _ _ _ _ _ 43 _ [] _ _
      refine G_iconst (v := (1 : Int32)) dX11_goes_43 (by decide) ?_
      exact G_zreturn rfl dX11_goes_44 rfl ⟨_, rfl, wp_ret hw⟩
    · have hw := hw.1 c36
      refine G_iconst (v := (0 : Int32)) dX11_goes_30 (by decide) ?_
      exact G_zreturn rfl dX11_goes_31 rfl ⟨_, rfl, wp_ret hw⟩
set_option maxHeartbeats 4000000 in
set_option maxRecDepth 100000 in
theorem s_X11_sootOfAll {Γ : GX} (hs : SF Γ) {N : Nat} (l0 : Nat) (h : PH) (Q : Int32 → PH → Prop) (hw : wp (f_X11_sootOfAll N l0 h) Q) : Spec Γ yX11_sootOfAll cX11_sootOfAll 1 (some .int) (1, 0, 0) [.ref l0] h (q_i Q) := by
  refine Spec.of (by decide) (Nat.le_of_ble_eq_true rfl) [some (.ref l0)] rfl ?_
  unfold f_X11_sootOfAll at hw
  refine G_aload_n dX11_sootOfAll_0 rfl ?_
  obtain ⟨c1, hw⟩ := wp_ck hw
  refine G_getR fl_X11_s w_1442 dX11_sootOfAll_1 c1 ?_
  obtain ⟨a2, ea2, hw⟩ := wp_rq hw
  refine G.sure ea2 ?_
  refine G_bipush (v := (29 : Int32)) dX11_sootOfAll_4 (by decide) ?_
  obtain ⟨c3, hw⟩ := wp_ck hw
  obtain ⟨c4, hw⟩ := wp_ck hw
  refine G_ialoadK (k := 29) dX11_sootOfAll_6 c3 (by decide) rfl c4 ?_
  refine G_aload_n dX11_sootOfAll_7 rfl ?_
  refine G_getR fl_X11_s w_1442 dX11_sootOfAll_8 c1 ?_
  obtain ⟨a5, ea5, hw⟩ := wp_rq hw
  refine G.sure ea5 ?_
  refine G_bipush (v := (30 : Int32)) dX11_sootOfAll_11 (by decide) ?_
  obtain ⟨c6, hw⟩ := wp_ck hw
  obtain ⟨c7, hw⟩ := wp_ck hw
  refine G_ialoadK (k := 30) dX11_sootOfAll_13 c6 (by decide) rfl c7 ?_
  refine G_iadd dX11_sootOfAll_14 ?_
  refine G_aload_n dX11_sootOfAll_15 rfl ?_
  refine G_getR fl_X11_s w_1442 dX11_sootOfAll_16 c1 ?_
  obtain ⟨a8, ea8, hw⟩ := wp_rq hw
  refine G.sure ea8 ?_
  refine G_bipush (v := (31 : Int32)) dX11_sootOfAll_19 (by decide) ?_
  obtain ⟨c9, hw⟩ := wp_ck hw
  obtain ⟨c10, hw⟩ := wp_ck hw
  refine G_ialoadK (k := 31) dX11_sootOfAll_21 c9 (by decide) rfl c10 ?_
  refine G_iadd dX11_sootOfAll_22 ?_
  exact G_ireturn rfl dX11_sootOfAll_23 ⟨_, rfl, wp_ret hw⟩
set_option maxHeartbeats 4000000 in
set_option maxRecDepth 100000 in
theorem f_X11_judged_94_ok {Γ : GX} (hs : SF Γ) {N : Nat} {K_41 : Nat → Int32 → Int32 → Int32 → Int32 → PH → Option (Int32 × PH)} (hK_41 : ∀ (l0 : Nat) (l1 : Int32) (l2 : Int32) (l3 : Int32) (l4 : Int32) (h : PH) (Q : Int32 → PH → Prop), wp (K_41 l0 l1 l2 l3 l4 h) Q → G Γ yX11_judged cX11_judged 5 (some .int) (8, 0, 0) 41 [some (.ref l0), some (.int l1), some (.int l2), some (.int l3), some (.int l4)] [] h (0, 0) (q_i Q)) (l0 : Nat) (l1 : Int32) (l2 : Int32) (l3 : Int32) (l4 : Int32) (h : PH) (Q : Int32 → PH → Prop) (hw : wp (f_X11_judged_94 N K_41 l0 l1 l2 l3 l4 h) Q) : G Γ yX11_judged cX11_judged 5 (some .int) (8, 0, 0) 94 [some (.ref l0), some (.int l1), some (.int l2), some (.int l3), some (.int l4)] [] h (0, 0) (q_i Q) := by
  unfold f_X11_judged_94 at hw
  obtain ⟨v1, ev1⟩ : ∃ z : Int32, z = l4 + (1 : Int32) := ⟨_, rfl⟩
  have hw := wp_bd hw v1 ev1
  refine G_iinc (v := v1) (lv' := [some (.ref l0), some (.int l1), some (.int l2), some (.int l3), some (.int v1)]) dX11_judged_94 rfl (by rw [ev1]; rfl) (Nat.le_of_ble_eq_true rfl) rfl ?_
  refine G_goto (tgt := 41) dX11_judged_97 rfl ?_
  refine G.less [some (.ref l0), some (.int l1), some (.int l2), some (.int l3), some (.int v1)] ⟨rfl, ⟨rfl, ⟨rfl, ⟨rfl, ⟨rfl, trivial⟩⟩⟩⟩⟩ ?_
  exact hK_41 _ _ _ _ _ h Q hw
set_option maxHeartbeats 4000000 in
set_option maxRecDepth 100000 in
theorem f_X11_judged_41_bok {Γ : GX} (hs : SF Γ) {N : Nat} {K_41 : Nat → Int32 → Int32 → Int32 → Int32 → PH → Option (Int32 × PH)} (hK_41 : ∀ (l0 : Nat) (l1 : Int32) (l2 : Int32) (l3 : Int32) (l4 : Int32) (h : PH) (Q : Int32 → PH → Prop), wp (K_41 l0 l1 l2 l3 l4 h) Q → G Γ yX11_judged cX11_judged 5 (some .int) (8, 0, 0) 41 [some (.ref l0), some (.int l1), some (.int l2), some (.int l3), some (.int l4)] [] h (0, 0) (q_i Q)) (l0 : Nat) (l1 : Int32) (l2 : Int32) (l3 : Int32) (l4 : Int32) (h : PH) (Q : Int32 → PH → Prop) (hw : wp (f_X11_judged_41_b N K_41 l0 l1 l2 l3 l4 h) Q) : G Γ yX11_judged cX11_judged 5 (some .int) (8, 0, 0) 41 [some (.ref l0), some (.int l1), some (.int l2), some (.int l3), some (.int l4)] [] h (0, 0) (q_i Q) := by
  unfold f_X11_judged_41_b at hw
  refine G_iload dX11_judged_41 rfl ?_
  refine G_aload_n dX11_judged_43 rfl ?_
  obtain ⟨c1, hw⟩ := wp_ck hw
  refine G_getR fl_X11_lines w_1432 dX11_judged_44 c1 ?_
  obtain ⟨a2, ea2, hw⟩ := wp_rq hw
  refine G.sure ea2 ?_
  refine G_iconst (v := (0 : Int32)) dX11_judged_47 (by decide) ?_
  obtain ⟨c3, hw⟩ := wp_ck hw
  obtain ⟨c4, hw⟩ := wp_ck hw
  refine G_ialoadK (k := 0) dX11_judged_48 c3 (by decide) rfl c4 ?_
  have hw := wp_if hw
  refine G_icmp_ge (tgt := 100) dX11_judged_49 rfl (fun c5 => ?_) (fun c5 => ?_)
  · have hw := hw.1 c5
    refine G_aload_n dX11_judged_100 rfl ?_
    refine G_callV (As := []) (s_X11_sootOfAll hs l0 h _ (wp_cl hw)) ca_X11_sootOfAll w_1901 w_98 (ci := 10) rfl (by decide) w_1899 c1 (Nat.le_of_ble_eq_true rfl) (Nat.le_of_ble_eq_true rfl) rfl (Nat.le_of_ble_eq_true rfl) (Nat.le_of_ble_eq_true rfl) (Nat.le_of_ble_eq_true rfl) dX11_judged_101 rfl (fun v h7 hq => ?_)
    obtain ⟨r6, rfl, hw⟩ := hq
    refine G.cse (cs' := (0, 0)) rfl ?_
    show GZ _ _ _ _ _ _ _ 104 _ (.int r6 :: []) _ _
    refine G_istore (lv' := [some (.ref l0), some (.int l1), some (.int l2), some (.int l3), some (.int r6)]) dX11_judged_104 (Nat.le_of_ble_eq_true rfl) rfl ?_
    refine G_aload_n dX11_judged_106 rfl ?_
    obtain ⟨c8, hw⟩ := wp_ck hw
    refine G_getR fl_X11_aside w_1443 dX11_judged_107 c8 ?_
    obtain ⟨a9, ea9, hw⟩ := wp_rq hw
    refine G.sure ea9 ?_
    refine G_iconst (v := (0 : Int32)) dX11_judged_110 (by decide) ?_
    refine G_aload_n dX11_judged_111 rfl ?_
    refine G_getR fl_X11_s w_1442 dX11_judged_112 c8 ?_
    obtain ⟨a10, ea10, hw⟩ := wp_rq hw
    refine G.sure ea10 ?_
    refine G_iconst (v := (0 : Int32)) dX11_judged_115 (by decide) ?_
    refine G_callS (As := [.ref a9, .int (0 : Int32), .ref a10, .int (0 : Int32)]) (s_X11_copies hs a9 (0 : Int32) a10 (0 : Int32) h7 _ (wp_cl hw)) ca_X11_copies w_1861 w_1860 (Nat.le_of_ble_eq_true rfl) (Nat.le_of_ble_eq_true rfl) rfl (Nat.le_of_ble_eq_true rfl) (Nat.le_of_ble_eq_true rfl) (Nat.le_of_ble_eq_true rfl) dX11_judged_116 rfl (fun v h12 hq => ?_)
    obtain ⟨rfl, hw⟩ := hq
    refine G.cse (cs' := (0, 0)) rfl ?_
    show GZ _ _ _ _ _ _ _ 119 _ [] _ _
    refine G_iload_n dX11_judged_119 rfl ?_
    have hw := wp_if hw
    refine G_if_ne (tgt := 127) dX11_judged_120 rfl (fun c13 => ?_) (fun c13 => ?_)
    · have hw := hw.2 c13
      refine G_iload_n dX11_judged_127 rfl ?_
      refine G_iconst (v := (1 : Int32)) dX11_judged_128 (by decide) ?_
      have hw := wp_if hw
      refine G_icmp_ne (tgt := 136) dX11_judged_129 rfl (fun c14 => ?_) (fun c14 => ?_)
      · have hw := hw.2 c14
        refine G_iload dX11_judged_136 rfl ?_
        exact G_ireturn rfl dX11_judged_138 ⟨_, rfl, wp_ret hw⟩
      · have hw := hw.1 c14
        refine G_iload_n dX11_judged_132 rfl ?_
        refine G_goto (tgt := 138) dX11_judged_133 rfl ?_
        exact G_ireturn rfl dX11_judged_138 ⟨_, rfl, wp_ret hw⟩
    · have hw := hw.1 c13
      refine G_iload_n dX11_judged_123 rfl ?_
      refine G_goto (tgt := 138) dX11_judged_124 rfl ?_
      exact G_ireturn rfl dX11_judged_138 ⟨_, rfl, wp_ret hw⟩
  · have hw := hw.2 c5
    refine G_aload_n dX11_judged_52 rfl ?_
    refine G_getR fl_X11_lineWhat w_1433 dX11_judged_53 c1 ?_
    obtain ⟨a15, ea15, hw⟩ := wp_rq hw
    refine G.sure ea15 ?_
    refine G_iload dX11_judged_56 rfl ?_
    obtain ⟨c16, hw⟩ := wp_ck hw
    obtain ⟨c17, hw⟩ := wp_ck hw
    refine G_iaload dX11_judged_58 c16 c17 ?_
    refine G_iconst (v := (2 : Int32)) dX11_judged_59 (by decide) ?_
    have hw := wp_if hw
    refine G_icmp_ne (tgt := 78) dX11_judged_60 rfl (fun c18 => ?_) (fun c18 => ?_)
    · have hw := hw.2 c18
      refine G_aload_n dX11_judged_78 rfl ?_
      refine G_iload dX11_judged_79 rfl ?_
      refine G_callV (As := [.int l4]) (s_X11_goes hs l0 l4 h _ (wp_cl hw)) ca_X11_goes w_1897 w_97 (ci := 10) rfl (by decide) w_1895 c1 (Nat.le_of_ble_eq_true rfl) (Nat.le_of_ble_eq_true rfl) rfl (Nat.le_of_ble_eq_true rfl) (Nat.le_of_ble_eq_true rfl) (Nat.le_of_ble_eq_true rfl) dX11_judged_81 rfl (fun v h20 hq => ?_)
      obtain ⟨r19, rfl, hw⟩ := hq
      refine G.cse (cs' := (0, 0)) rfl ?_
      show GZ _ _ _ _ _ _ _ 84 _ (.int r19 :: []) _ _
      have hw := wp_if hw
      refine G_if_ne (tgt := 94) dX11_judged_84 rfl (fun c21 => ?_) (fun c21 => ?_)
      · have hw := hw.2 c21
        refine G.less [some (.ref l0), some (.int l1), some (.int l2), some (.int l3), some (.int l4)] ⟨rfl, ⟨rfl, ⟨rfl, ⟨rfl, ⟨rfl, trivial⟩⟩⟩⟩⟩ ?_
        exact f_X11_judged_94_ok hs hK_41 _ _ _ _ _ h20 Q hw
      · have hw := hw.1 c21
        refine G_iload_n dX11_judged_87 rfl ?_
        have hw := wp_if hw
        refine G_if_ge (tgt := 94) dX11_judged_88 rfl (fun c22 => ?_) (fun c22 => ?_)
        · have hw := hw.1 c22
          refine G.less [some (.ref l0), some (.int l1), some (.int l2), some (.int l3), some (.int l4)] ⟨rfl, ⟨rfl, ⟨rfl, ⟨rfl, ⟨rfl, trivial⟩⟩⟩⟩⟩ ?_
          exact f_X11_judged_94_ok hs hK_41 _ _ _ _ _ h20 Q hw
        · have hw := hw.2 c22
          refine G_iload dX11_judged_91 rfl ?_
          refine G_istore_n (lv' := [some (.ref l0), some (.int l1), some (.int l4), some (.int l3), some (.int l4)]) dX11_judged_93 (Nat.le_of_ble_eq_true rfl) rfl ?_
          refine G.less [some (.ref l0), some (.int l1), some (.int l4), some (.int l3), some (.int l4)] ⟨rfl, ⟨rfl, ⟨rfl, ⟨rfl, ⟨rfl, trivial⟩⟩⟩⟩⟩ ?_
          exact f_X11_judged_94_ok hs hK_41 _ _ _ _ _ h20 Q hw
    · have hw := hw.1 c18
      refine G_aload_n dX11_judged_63 rfl ?_
      refine G_callV (As := []) (s_X11_passes hs l0 h _ (wp_cl hw)) ca_X11_passes w_1881 w_95 (ci := 10) rfl (by decide) w_1879 c1 (Nat.le_of_ble_eq_true rfl) (Nat.le_of_ble_eq_true rfl) rfl (Nat.le_of_ble_eq_true rfl) (Nat.le_of_ble_eq_true rfl) (Nat.le_of_ble_eq_true rfl) dX11_judged_64 rfl (fun v h24 hq => ?_)
      obtain ⟨r23, rfl, hw⟩ := hq
      refine G.cse (cs' := (0, 0)) rfl ?_
      show GZ _ _ _ _ _ _ _ 67 _ (.int r23 :: []) _ _
      refine G_pop dX11_judged_67 rfl ?_
      refine G_iload_n dX11_judged_68 rfl ?_
      refine G_aload_n dX11_judged_69 rfl ?_
      obtain ⟨c25, hw⟩ := wp_ck hw
      refine G_getI fl_X11_signsRead w_1448 dX11_judged_70 c25 ?_
      refine G_iadd dX11_judged_73 ?_
      refine G.topi fun v26 ev26 => ?_
      have hw := wp_bd hw v26 ev26
      refine G_istore_n (lv' := [some (.ref l0), some (.int l1), some (.int l2), some (.int v26), some (.int l4)]) dX11_judged_74 (Nat.le_of_ble_eq_true rfl) rfl ?_
      refine G_goto (tgt := 94) dX11_judged_75 rfl ?_
      refine G.less [some (.ref l0), some (.int l1), some (.int l2), some (.int v26), some (.int l4)] ⟨rfl, ⟨rfl, ⟨rfl, ⟨rfl, ⟨rfl, trivial⟩⟩⟩⟩⟩ ?_
      exact f_X11_judged_94_ok hs hK_41 _ _ _ _ _ h24 Q hw
theorem f_X11_judged_41_ok {Γ : GX} (hs : SF Γ) {N : Nat} : ∀ (n : Nat) (l0 : Nat) (l1 : Int32) (l2 : Int32) (l3 : Int32) (l4 : Int32) (h : PH) (Q : Int32 → PH → Prop), wp (f_X11_judged_41 N n l0 l1 l2 l3 l4 h) Q → G Γ yX11_judged cX11_judged 5 (some .int) (8, 0, 0) 41 [some (.ref l0), some (.int l1), some (.int l2), some (.int l3), some (.int l4)] [] h (0, 0) (q_i Q)
  | 0, _, _, _, _, _, _, Q, hw => (wp_no hw).elim
  | n + 1, l0, l1, l2, l3, l4, h, Q, hw => f_X11_judged_41_bok (N := N) hs (f_X11_judged_41_ok (N := N) hs n) l0 l1 l2 l3 l4 h Q hw
set_option maxHeartbeats 4000000 in
set_option maxRecDepth 100000 in
theorem s_X11_judged {Γ : GX} (hs : SF Γ) {N : Nat} (l0 : Nat) (l1 : Int32) (h : PH) (Q : Int32 → PH → Prop) (hw : wp (f_X11_judged N l0 l1 h) Q) : Spec Γ yX11_judged cX11_judged 5 (some .int) (8, 0, 0) [.ref l0, .int l1] h (q_i Q) := by
  refine Spec.of (by decide) (Nat.le_of_ble_eq_true rfl) [some (.ref l0), some (.int l1), none, none, none] rfl ?_
  unfold f_X11_judged at hw
  refine G_aload_n dX11_judged_0 rfl ?_
  refine G_iconst (v := (0 : Int32)) dX11_judged_1 (by decide) ?_
  obtain ⟨c1, hw⟩ := wp_ck hw
  refine G_putI fl_X11_thrown w_1393 dX11_judged_2 c1 ?_
  refine G.nmh fun h2 eh2 => ?_
  have hw := wp_bd hw h2 eh2
  refine G_iload_n dX11_judged_5 rfl ?_
  refine G_iconst (v := (0 : Int32)) dX11_judged_6 (by decide) ?_
  refine G_iconst (v := (2 : Int32)) dX11_judged_7 (by decide) ?_
  refine G_callS (As := [.int l1, .int (0 : Int32), .int (2 : Int32)]) (s_X11_within hs l1 (0 : Int32) (2 : Int32) h2 _ (wp_cl hw)) ca_X11_within w_1686 w_1685 (Nat.le_of_ble_eq_true rfl) (Nat.le_of_ble_eq_true rfl) rfl (Nat.le_of_ble_eq_true rfl) (Nat.le_of_ble_eq_true rfl) (Nat.le_of_ble_eq_true rfl) dX11_judged_8 rfl (fun v h4 hq => ?_)
  obtain ⟨r3, rfl, hw⟩ := hq
  refine G.cse (cs' := (0, 0)) rfl ?_
  show GZ _ _ _ _ _ _ _ 11 _ (.int r3 :: []) _ _
  have hw := wp_if hw
  refine G_if_ne (tgt := 17) dX11_judged_11 rfl (fun c5 => ?_) (fun c5 => ?_)
  · have hw := hw.2 c5
    refine G_aload_n dX11_judged_17 rfl ?_
    obtain ⟨c6, hw⟩ := wp_ck hw
    refine G_getR fl_X11_s w_1442 dX11_judged_18 c6 ?_
    obtain ⟨a7, ea7, hw⟩ := wp_rq hw
    refine G.sure ea7 ?_
    refine G_iconst (v := (0 : Int32)) dX11_judged_21 (by decide) ?_
    refine G_aload_n dX11_judged_22 rfl ?_
    refine G_getR fl_X11_aside w_1443 dX11_judged_23 c6 ?_
    obtain ⟨a8, ea8, hw⟩ := wp_rq hw
    refine G.sure ea8 ?_
    refine G_iconst (v := (0 : Int32)) dX11_judged_26 (by decide) ?_
    refine G_callS (As := [.ref a7, .int (0 : Int32), .ref a8, .int (0 : Int32)]) (s_X11_copies hs a7 (0 : Int32) a8 (0 : Int32) h4 _ (wp_cl hw)) ca_X11_copies w_1861 w_1860 (Nat.le_of_ble_eq_true rfl) (Nat.le_of_ble_eq_true rfl) rfl (Nat.le_of_ble_eq_true rfl) (Nat.le_of_ble_eq_true rfl) (Nat.le_of_ble_eq_true rfl) dX11_judged_27 rfl (fun v h10 hq => ?_)
    obtain ⟨rfl, hw⟩ := hq
    refine G.cse (cs' := (0, 0)) rfl ?_
    show GZ _ _ _ _ _ _ _ 30 _ [] _ _
    refine G_aload_n dX11_judged_30 rfl ?_
    obtain ⟨c13, hw⟩ := wp_ck hw
    refine G_callV (As := []) (s_X11_fresh hs l0 h10 _ (wp_cl hw)) ca_X11_fresh w_1390 w_43 (ci := 10) rfl (by decide) w_1388 c13 (Nat.le_of_ble_eq_true rfl) (Nat.le_of_ble_eq_true rfl) rfl (Nat.le_of_ble_eq_true rfl) (Nat.le_of_ble_eq_true rfl) (Nat.le_of_ble_eq_true rfl) dX11_judged_31 rfl (fun v h12 hq => ?_)
    obtain ⟨rfl, hw⟩ := hq
    refine G.cse (cs' := (0, 0)) rfl ?_
    show GZ _ _ _ _ _ _ _ 34 _ [] _ _
    refine G_iconst (v := (-1 : Int32)) dX11_judged_34 (by decide) ?_
    refine G_istore_n (lv' := [some (.ref l0), some (.int l1), some (.int (-1 : Int32)), none, none]) dX11_judged_35 (Nat.le_of_ble_eq_true rfl) rfl ?_
    refine G_iconst (v := (0 : Int32)) dX11_judged_36 (by decide) ?_
    refine G_istore_n (lv' := [some (.ref l0), some (.int l1), some (.int (-1 : Int32)), some (.int (0 : Int32)), none]) dX11_judged_37 (Nat.le_of_ble_eq_true rfl) rfl ?_
    refine G_iconst (v := (0 : Int32)) dX11_judged_38 (by decide) ?_
    refine G_istore (lv' := [some (.ref l0), some (.int l1), some (.int (-1 : Int32)), some (.int (0 : Int32)), some (.int (0 : Int32))]) dX11_judged_39 (Nat.le_of_ble_eq_true rfl) rfl ?_
    refine G.less [some (.ref l0), some (.int l1), some (.int (-1 : Int32)), some (.int (0 : Int32)), some (.int (0 : Int32))] ⟨rfl, ⟨rfl, ⟨rfl, ⟨rfl, ⟨rfl, trivial⟩⟩⟩⟩⟩ ?_
    exact f_X11_judged_41_ok hs N _ _ _ _ _ h12 Q hw
  · have hw := hw.1 c5
    refine G_bipush (v := (-2 : Int32)) dX11_judged_14 (by decide) ?_
    exact G_ireturn rfl dX11_judged_16 ⟨_, rfl, wp_ret hw⟩
set_option maxHeartbeats 4000000 in
set_option maxRecDepth 100000 in
theorem s_X11_mayBurn {Γ : GX} (hs : SF Γ) {N : Nat} (l0 : Nat) (l1 : Int32) (l2 : Int32) (h : PH) (Q : Int32 → PH → Prop) (hw : wp (f_X11_mayBurn N l0 l1 l2 h) Q) : Spec Γ yX11_mayBurn cX11_mayBurn 3 (some .boolean) (3, 0, 0) [.ref l0, .int l1, .int l2] h (q_i Q) := by
  refine Spec.of (by decide) (Nat.le_of_ble_eq_true rfl) [some (.ref l0), some (.int l1), some (.int l2)] rfl ?_
  unfold f_X11_mayBurn at hw
  refine G_iload_n dX11_mayBurn_0 rfl ?_
  refine G_iconst (v := (5 : Int32)) dX11_mayBurn_1 (by decide) ?_
  have hw := wp_if hw
  refine G_icmp_eq (tgt := 22) dX11_mayBurn_2 rfl (fun c1 => ?_) (fun c1 => ?_)
  · have hw := hw.1 c1
    refine G_iconst (v := (1 : Int32)) dX11_mayBurn_22 (by decide) ?_
    refine G_goto (tgt := 27) dX11_mayBurn_23 rfl ?_
    exact G_zreturn rfl dX11_mayBurn_27 rfl ⟨_, rfl, wp_ret hw⟩
  · have hw := hw.2 c1
    refine G_aload_n dX11_mayBurn_5 rfl ?_
    refine G_iload_n dX11_mayBurn_6 rfl ?_
    obtain ⟨c4, hw⟩ := wp_ck hw
    refine G_callV (As := [.int l2]) (s_X11_isFuel hs l0 l2 h _ (wp_cl hw)) ca_X11_isFuel w_1850 w_90 (ci := 10) rfl (by decide) w_1848 c4 (Nat.le_of_ble_eq_true rfl) (Nat.le_of_ble_eq_true rfl) rfl (Nat.le_of_ble_eq_true rfl) (Nat.le_of_ble_eq_true rfl) (Nat.le_of_ble_eq_true rfl) dX11_mayBurn_7 rfl (fun v h3 hq => ?_)
    obtain ⟨r2, rfl, hw⟩ := hq
    refine G.cse (cs' := (0, 0)) rfl ?_
    show GZ _ _ _ _ _ _ _ 10 _ (.int r2 :: []) _ _
    have hw := wp_if hw
    refine G_if_eq (tgt := 26) dX11_mayBurn_10 rfl (fun c5 => ?_) (fun c5 => ?_)
    · have hw := hw.1 c5
      refine G_iconst (v := (0 : Int32)) dX11_mayBurn_26 (by decide) ?_
      exact G_zreturn rfl dX11_mayBurn_27 rfl ⟨_, rfl, wp_ret hw⟩
    · have hw := hw.2 c5
      refine G_aload_n dX11_mayBurn_13 rfl ?_
      refine G_iload_n dX11_mayBurn_14 rfl ?_
      refine G_iload_n dX11_mayBurn_15 rfl ?_
      obtain ⟨c8, hw⟩ := wp_ck hw
      refine G_callV (As := [.int l1, .int l2]) (s_X11_canBurn hs l0 l1 l2 h3 _ (wp_cl hw)) ca_X11_canBurn w_1854 w_91 (ci := 10) rfl (by decide) w_1852 c8 (Nat.le_of_ble_eq_true rfl) (Nat.le_of_ble_eq_true rfl) rfl (Nat.le_of_ble_eq_true rfl) (Nat.le_of_ble_eq_true rfl) (Nat.le_of_ble_eq_true rfl) dX11_mayBurn_16 rfl (fun v h7 hq => ?_)
      obtain ⟨r6, rfl, hw⟩ := hq
      refine G.cse (cs' := (0, 0)) rfl ?_
      show GZ _ _ _ _ _ _ _ 19 _ (.int r6 :: []) _ _
      have hw := wp_if hw
      refine G_if_eq (tgt := 26) dX11_mayBurn_19 rfl (fun c9 => ?_) (fun c9 => ?_)
      · have hw := hw.1 c9
        refine G_iconst (v := (0 : Int32)) dX11_mayBurn_26 (by decide) ?_
        exact G_zreturn rfl dX11_mayBurn_27 rfl ⟨_, rfl, wp_ret hw⟩
      · have hw := hw.2 c9
        refine G_iconst (v := (1 : Int32)) dX11_mayBurn_22 (by decide) ?_
        refine G_goto (tgt := 27) dX11_mayBurn_23 rfl ?_
        exact G_zreturn rfl dX11_mayBurn_27 rfl ⟨_, rfl, wp_ret hw⟩
set_option maxHeartbeats 4000000 in
set_option maxRecDepth 100000 in
theorem f_X11_givesBy_18_ok {Γ : GX} (hs : SF Γ) {N : Nat} (l0 : Nat) (l1 : Int32) (l2 : Int32) (h : PH) (Q : Int32 → PH → Prop) (hw : wp (f_X11_givesBy_18 N l0 l1 l2 h) Q) : G Γ yX11_givesBy cX11_givesBy 3 (some .int) (6, 0, 0) 18 [some (.ref l0), some (.int l1), some (.int l2)] [] h (0, 0) (q_i Q) := by
  unfold f_X11_givesBy_18 at hw
  refine G_aload_n dX11_givesBy_18 rfl ?_
  refine G_iload_n dX11_givesBy_19 rfl ?_
  refine G_iload_n dX11_givesBy_20 rfl ?_
  obtain ⟨c3, hw⟩ := wp_ck hw
  refine G_callV (As := [.int l1, .int l2]) (s_X11_fireGives hs l0 l1 l2 h _ (wp_cl hw)) ca_X11_fireGives w_1802 w_80 (ci := 10) rfl (by decide) w_1800 c3 (Nat.le_of_ble_eq_true rfl) (Nat.le_of_ble_eq_true rfl) rfl (Nat.le_of_ble_eq_true rfl) (Nat.le_of_ble_eq_true rfl) (Nat.le_of_ble_eq_true rfl) dX11_givesBy_21 rfl (fun v h2 hq => ?_)
  obtain ⟨r1, rfl, hw⟩ := hq
  refine G.cse (cs' := (0, 0)) rfl ?_
  show GZ _ _ _ _ _ _ _ 24 _ (.int r1 :: []) _ _
  exact G_ireturn rfl dX11_givesBy_24 ⟨_, rfl, wp_ret hw⟩
set_option maxHeartbeats 4000000 in
set_option maxRecDepth 100000 in
theorem s_X11_givesBy {Γ : GX} (hs : SF Γ) {N : Nat} (l0 : Nat) (l1 : Int32) (l2 : Int32) (h : PH) (Q : Int32 → PH → Prop) (hw : wp (f_X11_givesBy N l0 l1 l2 h) Q) : Spec Γ yX11_givesBy cX11_givesBy 3 (some .int) (6, 0, 0) [.ref l0, .int l1, .int l2] h (q_i Q) := by
  refine Spec.of (by decide) (Nat.le_of_ble_eq_true rfl) [some (.ref l0), some (.int l1), some (.int l2)] rfl ?_
  unfold f_X11_givesBy at hw
  refine G_aload_n dX11_givesBy_0 rfl ?_
  refine G_iload_n dX11_givesBy_1 rfl ?_
  obtain ⟨c3, hw⟩ := wp_ck hw
  refine G_callV (As := [.int l1]) (s_X11_isFire hs l0 l1 h _ (wp_cl hw)) ca_X11_isFire w_1806 w_81 (ci := 10) rfl (by decide) w_1804 c3 (Nat.le_of_ble_eq_true rfl) (Nat.le_of_ble_eq_true rfl) rfl (Nat.le_of_ble_eq_true rfl) (Nat.le_of_ble_eq_true rfl) (Nat.le_of_ble_eq_true rfl) dX11_givesBy_2 rfl (fun v h2 hq => ?_)
  obtain ⟨r1, rfl, hw⟩ := hq
  refine G.cse (cs' := (0, 0)) rfl ?_
  show GZ _ _ _ _ _ _ _ 5 _ (.int r1 :: []) _ _
  have hw := wp_if hw
  refine G_if_ne (tgt := 18) dX11_givesBy_5 rfl (fun c4 => ?_) (fun c4 => ?_)
  · have hw := hw.2 c4
    refine G.less [some (.ref l0), some (.int l1), some (.int l2)] ⟨rfl, ⟨rfl, ⟨rfl, trivial⟩⟩⟩ ?_
    exact f_X11_givesBy_18_ok hs _ _ _ h2 Q hw
  · have hw := hw.1 c4
    refine G_aload_n dX11_givesBy_8 rfl ?_
    obtain ⟨c5, hw⟩ := wp_ck hw
    refine G_getR fl_X11_way w_1450 dX11_givesBy_9 c5 ?_
    obtain ⟨a6, ea6, hw⟩ := wp_rq hw
    refine G.sure ea6 ?_
    refine G_iload_n dX11_givesBy_12 rfl ?_
    obtain ⟨c7, hw⟩ := wp_ck hw
    obtain ⟨c8, hw⟩ := wp_ck hw
    refine G_iaload dX11_givesBy_13 c7 c8 ?_
    refine G_iconst (v := (5 : Int32)) dX11_givesBy_14 (by decide) ?_
    have hw := wp_if hw
    refine G_icmp_ne (tgt := 25) dX11_givesBy_15 rfl (fun c9 => ?_) (fun c9 => ?_)
    · have hw := hw.2 c9
      refine G_aload_n dX11_givesBy_25 rfl ?_
      refine G_aload_n dX11_givesBy_26 rfl ?_
      refine G_getR fl_X11_way w_1450 dX11_givesBy_27 c5 ?_
      obtain ⟨a10, ea10, hw⟩ := wp_rq hw
      refine G.sure ea10 ?_
      refine G_iload_n dX11_givesBy_30 rfl ?_
      obtain ⟨c11, hw⟩ := wp_ck hw
      obtain ⟨c12, hw⟩ := wp_ck hw
      refine G_iaload dX11_givesBy_31 c11 c12 ?_
      refine G_aload_n dX11_givesBy_32 rfl ?_
      refine G_getR fl_X11_fuelLong w_1407 dX11_givesBy_33 c5 ?_
      obtain ⟨a13, ea13, hw⟩ := wp_rq hw
      refine G.sure ea13 ?_
      refine G_aload_n dX11_givesBy_36 rfl ?_
      refine G_getR fl_X11_way w_1450 dX11_givesBy_37 c5 ?_
      obtain ⟨a14, ea14, hw⟩ := wp_rq hw
      refine G.sure ea14 ?_
      refine G_iload_n dX11_givesBy_40 rfl ?_
      obtain ⟨c15, hw⟩ := wp_ck hw
      obtain ⟨c16, hw⟩ := wp_ck hw
      refine G_iaload dX11_givesBy_41 c15 c16 ?_
      obtain ⟨c17, hw⟩ := wp_ck hw
      obtain ⟨c18, hw⟩ := wp_ck hw
      refine G_iaload dX11_givesBy_42 c17 c18 ?_
      refine G_aload_n dX11_givesBy_43 rfl ?_
      refine G_getR fl_X11_s w_1442 dX11_givesBy_44 c5 ?_
      obtain ⟨a19, ea19, hw⟩ := wp_rq hw
      refine G.sure ea19 ?_
      refine G_iconst (v := (0 : Int32)) dX11_givesBy_47 (by decide) ?_
      obtain ⟨c20, hw⟩ := wp_ck hw
      obtain ⟨c21, hw⟩ := wp_ck hw
      refine G_ialoadK (k := 0) dX11_givesBy_48 c20 (by decide) rfl c21 ?_
      refine G_iload_n dX11_givesBy_49 rfl ?_
      refine G_callV (As := [.int (hI h2 a10 (ix l1)), .int (hI h2 a13 (ix (hI h2 a14 (ix l1)))), .int (hI h2 a19 0), .int l2]) (s_X11_givesIn hs l0 (hI h2 a10 (ix l1)) (hI h2 a13 (ix (hI h2 a14 (ix l1)))) (hI h2 a19 0) l2 h2 _ (wp_cl hw)) ca_X11_givesIn w_1810 w_82 (ci := 10) rfl (by decide) w_1808 c5 (Nat.le_of_ble_eq_true rfl) (Nat.le_of_ble_eq_true rfl) rfl (Nat.le_of_ble_eq_true rfl) (Nat.le_of_ble_eq_true rfl) (Nat.le_of_ble_eq_true rfl) dX11_givesBy_50 rfl (fun v h23 hq => ?_)
      obtain ⟨r22, rfl, hw⟩ := hq
      refine G.cse (cs' := (0, 0)) rfl ?_
      show GZ _ _ _ _ _ _ _ 53 _ (.int r22 :: []) _ _
      exact G_ireturn rfl dX11_givesBy_53 ⟨_, rfl, wp_ret hw⟩
    · have hw := hw.1 c9
      refine G.less [some (.ref l0), some (.int l1), some (.int l2)] ⟨rfl, ⟨rfl, ⟨rfl, trivial⟩⟩⟩ ?_
      exact f_X11_givesBy_18_ok hs _ _ _ h2 Q hw
set_option maxHeartbeats 4000000 in
set_option maxRecDepth 100000 in
theorem f_X11_smokeBy_39_ok {Γ : GX} (hs : SF Γ) {N : Nat} {K_5 : Nat → Int32 → Int32 → Int32 → Int32 → PH → Option (Int32 × PH)} (hK_5 : ∀ (l0 : Nat) (l1 : Int32) (l2 : Int32) (l3 : Int32) (l4 : Int32) (h : PH) (Q : Int32 → PH → Prop), wp (K_5 l0 l1 l2 l3 l4 h) Q → G Γ yX11_smokeBy cX11_smokeBy 5 (some .int) (7, 0, 0) 5 [some (.ref l0), some (.int l1), some (.int l2), some (.int l3), some (.int l4)] [] h (0, 0) (q_i Q)) (s0 : Int32) (s1 : Int32) (l0 : Nat) (l1 : Int32) (l2 : Int32) (l4 : Int32) (h : PH) (Q : Int32 → PH → Prop) (hw : wp (f_X11_smokeBy_39 N K_5 s0 s1 l0 l1 l2 l4 h) Q) : G Γ yX11_smokeBy cX11_smokeBy 5 (some .int) (7, 0, 0) 39 [some (.ref l0), some (.int l1), some (.int l2), none, some (.int l4)] [.int s0, .int s1] h (0, 0) (q_i Q) := by
  unfold f_X11_smokeBy_39 at hw
  refine G_iadd dX11_smokeBy_39 ?_
  refine G.topi fun v1 ev1 => ?_
  have hw := wp_bd hw v1 ev1
  refine G_istore_n (lv' := [some (.ref l0), some (.int l1), some (.int l2), some (.int v1), some (.int l4)]) dX11_smokeBy_40 (Nat.le_of_ble_eq_true rfl) rfl ?_
  obtain ⟨v2, ev2⟩ : ∃ z : Int32, z = l4 + (1 : Int32) := ⟨_, rfl⟩
  have hw := wp_bd hw v2 ev2
  refine G_iinc (v := v2) (lv' := [some (.ref l0), some (.int l1), some (.int l2), some (.int v1), some (.int v2)]) dX11_smokeBy_41 rfl (by rw [ev2]; rfl) (Nat.le_of_ble_eq_true rfl) rfl ?_
  refine G_goto (tgt := 5) dX11_smokeBy_44 rfl ?_
  refine G.less [some (.ref l0), some (.int l1), some (.int l2), some (.int v1), some (.int v2)] ⟨rfl, ⟨rfl, ⟨rfl, ⟨rfl, ⟨rfl, trivial⟩⟩⟩⟩⟩ ?_
  exact hK_5 _ _ _ _ _ h Q hw
set_option maxHeartbeats 4000000 in
set_option maxRecDepth 100000 in
theorem f_X11_smokeBy_5_bok {Γ : GX} (hs : SF Γ) {N : Nat} {K_5 : Nat → Int32 → Int32 → Int32 → Int32 → PH → Option (Int32 × PH)} (hK_5 : ∀ (l0 : Nat) (l1 : Int32) (l2 : Int32) (l3 : Int32) (l4 : Int32) (h : PH) (Q : Int32 → PH → Prop), wp (K_5 l0 l1 l2 l3 l4 h) Q → G Γ yX11_smokeBy cX11_smokeBy 5 (some .int) (7, 0, 0) 5 [some (.ref l0), some (.int l1), some (.int l2), some (.int l3), some (.int l4)] [] h (0, 0) (q_i Q)) (l0 : Nat) (l1 : Int32) (l2 : Int32) (l3 : Int32) (l4 : Int32) (h : PH) (Q : Int32 → PH → Prop) (hw : wp (f_X11_smokeBy_5_b N K_5 l0 l1 l2 l3 l4 h) Q) : G Γ yX11_smokeBy cX11_smokeBy 5 (some .int) (7, 0, 0) 5 [some (.ref l0), some (.int l1), some (.int l2), some (.int l3), some (.int l4)] [] h (0, 0) (q_i Q) := by
  unfold f_X11_smokeBy_5_b at hw
  refine G_iload dX11_smokeBy_5 rfl ?_
  refine G_aload_n dX11_smokeBy_7 rfl ?_
  obtain ⟨c1, hw⟩ := wp_ck hw
  refine G_getR fl_X11_valley w_1403 dX11_smokeBy_8 c1 ?_
  obtain ⟨a2, ea2, hw⟩ := wp_rq hw
  refine G.sure ea2 ?_
  refine G_iconst (v := (2 : Int32)) dX11_smokeBy_11 (by decide) ?_
  obtain ⟨c3, hw⟩ := wp_ck hw
  obtain ⟨c4, hw⟩ := wp_ck hw
  refine G_ialoadK (k := 2) dX11_smokeBy_12 c3 (by decide) rfl c4 ?_
  have hw := wp_if hw
  refine G_icmp_ge (tgt := 47) dX11_smokeBy_13 rfl (fun c5 => ?_) (fun c5 => ?_)
  · have hw := hw.1 c5
    refine G_sipush (v := (999 : Int32)) dX11_smokeBy_47 (by decide) ?_
    refine G_iload_n dX11_smokeBy_50 rfl ?_
    refine G_mmin w_1835 w_642 w_139 w_643 dX11_smokeBy_51 (Nat.le_of_ble_eq_true rfl) (Nat.le_of_ble_eq_true rfl) (Nat.le_of_ble_eq_true rfl) (Nat.le_of_ble_eq_true rfl) ?_
    exact G_ireturn rfl dX11_smokeBy_54 ⟨_, rfl, wp_ret hw⟩
  · have hw := hw.2 c5
    refine G_iload_n dX11_smokeBy_16 rfl ?_
    refine G_aload_n dX11_smokeBy_17 rfl ?_
    refine G_getR fl_X11_houseAt w_1408 dX11_smokeBy_18 c1 ?_
    obtain ⟨a6, ea6, hw⟩ := wp_rq hw
    refine G.sure ea6 ?_
    refine G_iload dX11_smokeBy_21 rfl ?_
    obtain ⟨c7, hw⟩ := wp_ck hw
    obtain ⟨c8, hw⟩ := wp_ck hw
    refine G_iaload dX11_smokeBy_23 c7 c8 ?_
    refine G_iload_n dX11_smokeBy_24 rfl ?_
    have hw := wp_if hw
    refine G_icmp_ne (tgt := 38) dX11_smokeBy_25 rfl (fun c9 => ?_) (fun c9 => ?_)
    · have hw := hw.2 c9
      refine G_iconst (v := (0 : Int32)) dX11_smokeBy_38 (by decide) ?_
      refine G.less [some (.ref l0), some (.int l1), some (.int l2), none, some (.int l4)] ⟨rfl, ⟨rfl, ⟨rfl, ⟨rfl, trivial⟩⟩⟩⟩ ?_
      exact f_X11_smokeBy_39_ok hs hK_5 _ _ _ _ _ _ h Q hw
    · have hw := hw.1 c9
      refine G_aload_n dX11_smokeBy_28 rfl ?_
      refine G_iload dX11_smokeBy_29 rfl ?_
      refine G_iload_n dX11_smokeBy_31 rfl ?_
      refine G_callV (As := [.int l4, .int l2]) (s_X11_givesBy hs l0 l4 l2 h _ (wp_cl hw)) ca_X11_givesBy w_1937 w_106 (ci := 10) rfl (by decide) w_1935 c1 (Nat.le_of_ble_eq_true rfl) (Nat.le_of_ble_eq_true rfl) rfl (Nat.le_of_ble_eq_true rfl) (Nat.le_of_ble_eq_true rfl) (Nat.le_of_ble_eq_true rfl) dX11_smokeBy_32 rfl (fun v h11 hq => ?_)
      obtain ⟨r10, rfl, hw⟩ := hq
      refine G.cse (cs' := (0, 0)) rfl ?_
      show GZ _ _ _ _ _ _ _ 35 _ (.int r10 :: [.int l3]) _ _
      refine G_goto (tgt := 39) dX11_smokeBy_35 rfl ?_
      refine G.less [some (.ref l0), some (.int l1), some (.int l2), none, some (.int l4)] ⟨rfl, ⟨rfl, ⟨rfl, ⟨rfl, trivial⟩⟩⟩⟩ ?_
      exact f_X11_smokeBy_39_ok hs hK_5 _ _ _ _ _ _ h11 Q hw
theorem f_X11_smokeBy_5_ok {Γ : GX} (hs : SF Γ) {N : Nat} : ∀ (n : Nat) (l0 : Nat) (l1 : Int32) (l2 : Int32) (l3 : Int32) (l4 : Int32) (h : PH) (Q : Int32 → PH → Prop), wp (f_X11_smokeBy_5 N n l0 l1 l2 l3 l4 h) Q → G Γ yX11_smokeBy cX11_smokeBy 5 (some .int) (7, 0, 0) 5 [some (.ref l0), some (.int l1), some (.int l2), some (.int l3), some (.int l4)] [] h (0, 0) (q_i Q)
  | 0, _, _, _, _, _, _, Q, hw => (wp_no hw).elim
  | n + 1, l0, l1, l2, l3, l4, h, Q, hw => f_X11_smokeBy_5_bok (N := N) hs (f_X11_smokeBy_5_ok (N := N) hs n) l0 l1 l2 l3 l4 h Q hw
set_option maxHeartbeats 4000000 in
set_option maxRecDepth 100000 in
theorem s_X11_smokeBy {Γ : GX} (hs : SF Γ) {N : Nat} (l0 : Nat) (l1 : Int32) (l2 : Int32) (h : PH) (Q : Int32 → PH → Prop) (hw : wp (f_X11_smokeBy N l0 l1 l2 h) Q) : Spec Γ yX11_smokeBy cX11_smokeBy 5 (some .int) (7, 0, 0) [.ref l0, .int l1, .int l2] h (q_i Q) := by
  refine Spec.of (by decide) (Nat.le_of_ble_eq_true rfl) [some (.ref l0), some (.int l1), some (.int l2), none, none] rfl ?_
  unfold f_X11_smokeBy at hw
  refine G_iconst (v := (0 : Int32)) dX11_smokeBy_0 (by decide) ?_
  refine G_istore_n (lv' := [some (.ref l0), some (.int l1), some (.int l2), some (.int (0 : Int32)), none]) dX11_smokeBy_1 (Nat.le_of_ble_eq_true rfl) rfl ?_
  refine G_iconst (v := (0 : Int32)) dX11_smokeBy_2 (by decide) ?_
  refine G_istore (lv' := [some (.ref l0), some (.int l1), some (.int l2), some (.int (0 : Int32)), some (.int (0 : Int32))]) dX11_smokeBy_3 (Nat.le_of_ble_eq_true rfl) rfl ?_
  refine G.less [some (.ref l0), some (.int l1), some (.int l2), some (.int (0 : Int32)), some (.int (0 : Int32))] ⟨rfl, ⟨rfl, ⟨rfl, ⟨rfl, ⟨rfl, trivial⟩⟩⟩⟩⟩ ?_
  exact f_X11_smokeBy_5_ok hs N _ _ _ _ _ h Q hw
set_option maxHeartbeats 4000000 in
set_option maxRecDepth 100000 in
theorem s_X11_signBy {Γ : GX} (hs : SF Γ) {N : Nat} (l0 : Nat) (l1 : Int32) (h : PH) (Q : Int32 → PH → Prop) (hw : wp (f_X11_signBy N l0 l1 h) Q) : Spec Γ yX11_signBy cX11_signBy 2 (some .int) (8, 0, 0) [.ref l0, .int l1] h (q_i Q) := by
  refine Spec.of (by decide) (Nat.le_of_ble_eq_true rfl) [some (.ref l0), some (.int l1)] rfl ?_
  unfold f_X11_signBy at hw
  refine G_aload_n dX11_signBy_0 rfl ?_
  refine G_aload_n dX11_signBy_1 rfl ?_
  refine G_iload_n dX11_signBy_2 rfl ?_
  refine G_iconst (v := (0 : Int32)) dX11_signBy_3 (by decide) ?_
  obtain ⟨c3, hw⟩ := wp_ck hw
  refine G_callV (As := [.int l1, .int (0 : Int32)]) (s_X11_smokeBy hs l0 l1 (0 : Int32) h _ (wp_cl hw)) ca_X11_smokeBy w_1933 w_105 (ci := 10) rfl (by decide) w_1931 c3 (Nat.le_of_ble_eq_true rfl) (Nat.le_of_ble_eq_true rfl) rfl (Nat.le_of_ble_eq_true rfl) (Nat.le_of_ble_eq_true rfl) (Nat.le_of_ble_eq_true rfl) dX11_signBy_4 rfl (fun v h2 hq => ?_)
  obtain ⟨r1, rfl, hw⟩ := hq
  refine G.cse (cs' := (0, 0)) rfl ?_
  show GZ _ _ _ _ _ _ _ 7 _ (.int r1 :: [.ref l0]) _ _
  refine G_aload_n dX11_signBy_7 rfl ?_
  refine G_iload_n dX11_signBy_8 rfl ?_
  refine G_iconst (v := (1 : Int32)) dX11_signBy_9 (by decide) ?_
  obtain ⟨c6, hw⟩ := wp_ck hw
  refine G_callV (As := [.int l1, .int (1 : Int32)]) (s_X11_smokeBy hs l0 l1 (1 : Int32) h2 _ (wp_cl hw)) ca_X11_smokeBy w_1933 w_105 (ci := 10) rfl (by decide) w_1931 c6 (Nat.le_of_ble_eq_true rfl) (Nat.le_of_ble_eq_true rfl) rfl (Nat.le_of_ble_eq_true rfl) (Nat.le_of_ble_eq_true rfl) (Nat.le_of_ble_eq_true rfl) dX11_signBy_10 rfl (fun v h5 hq => ?_)
  obtain ⟨r4, rfl, hw⟩ := hq
  refine G.cse (cs' := (0, 0)) rfl ?_
  show GZ _ _ _ _ _ _ _ 13 _ (.int r4 :: [.int r1, .ref l0]) _ _
  obtain ⟨c9, hw⟩ := wp_ck hw
  refine G_callV (As := [.int r1, .int r4]) (s_X11_signOf hs l0 r1 r4 h5 _ (wp_cl hw)) ca_X11_signOf w_1838 w_88 (ci := 10) rfl (by decide) w_1836 c9 (Nat.le_of_ble_eq_true rfl) (Nat.le_of_ble_eq_true rfl) rfl (Nat.le_of_ble_eq_true rfl) (Nat.le_of_ble_eq_true rfl) (Nat.le_of_ble_eq_true rfl) dX11_signBy_13 rfl (fun v h8 hq => ?_)
  obtain ⟨r7, rfl, hw⟩ := hq
  refine G.cse (cs' := (0, 0)) rfl ?_
  show GZ _ _ _ _ _ _ _ 16 _ (.int r7 :: []) _ _
  exact G_ireturn rfl dX11_signBy_16 ⟨_, rfl, wp_ret hw⟩
set_option maxHeartbeats 4000000 in
set_option maxRecDepth 100000 in
theorem f_X11_noneBurns_2_bok {Γ : GX} (hs : SF Γ) {N : Nat} {K_2 : Nat → Int32 → PH → Option (Unit × PH)} (hK_2 : ∀ (l0 : Nat) (l1 : Int32) (h : PH) (Q : Unit → PH → Prop), wp (K_2 l0 l1 h) Q → G Γ yX11_noneBurns cX11_noneBurns 2 none (1, 0, 0) 2 [some (.ref l0), some (.int l1)] [] h (0, 0) (q_u Q)) (l0 : Nat) (l1 : Int32) (h : PH) (Q : Unit → PH → Prop) (hw : wp (f_X11_noneBurns_2_b N K_2 l0 l1 h) Q) : G Γ yX11_noneBurns cX11_noneBurns 2 none (1, 0, 0) 2 [some (.ref l0), some (.int l1)] [] h (0, 0) (q_u Q) := by
  unfold f_X11_noneBurns_2_b at hw
  refine G_iload_n dX11_noneBurns_2 rfl ?_
  refine G_iconst (v := (4 : Int32)) dX11_noneBurns_3 (by decide) ?_
  have hw := wp_if hw
  refine G_icmp_ge (tgt := 20) dX11_noneBurns_4 rfl (fun c1 => ?_) (fun c1 => ?_)
  · have hw := hw.1 c1
    exact G_vreturn rfl dX11_noneBurns_20 ⟨rfl, wp_ret hw⟩
  · have hw := hw.2 c1
    refine G_aload_n dX11_noneBurns_7 rfl ?_
    obtain ⟨c2, hw⟩ := wp_ck hw
    refine G_getR fl_X11_way w_1450 dX11_noneBurns_8 c2 ?_
    obtain ⟨a3, ea3, hw⟩ := wp_rq hw
    refine G.sure ea3 ?_
    refine G_iload_n dX11_noneBurns_11 rfl ?_
    refine G_iconst (v := (5 : Int32)) dX11_noneBurns_12 (by decide) ?_
    obtain ⟨c4, hw⟩ := wp_ck hw
    obtain ⟨c5, hw⟩ := wp_ck hw
    refine G_iastore dX11_noneBurns_13 c4 c5 ?_
    refine G.nmh fun h6 eh6 => ?_
    have hw := wp_bd hw h6 eh6
    obtain ⟨v7, ev7⟩ : ∃ z : Int32, z = l1 + (1 : Int32) := ⟨_, rfl⟩
    have hw := wp_bd hw v7 ev7
    refine G_iinc (v := v7) (lv' := [some (.ref l0), some (.int v7)]) dX11_noneBurns_14 rfl (by rw [ev7]; rfl) (Nat.le_of_ble_eq_true rfl) rfl ?_
    refine G_goto (tgt := 2) dX11_noneBurns_17 rfl ?_
    refine G.less [some (.ref l0), some (.int v7)] ⟨rfl, ⟨rfl, trivial⟩⟩ ?_
    exact hK_2 _ _ h6 Q hw
theorem f_X11_noneBurns_2_ok {Γ : GX} (hs : SF Γ) {N : Nat} : ∀ (n : Nat) (l0 : Nat) (l1 : Int32) (h : PH) (Q : Unit → PH → Prop), wp (f_X11_noneBurns_2 N n l0 l1 h) Q → G Γ yX11_noneBurns cX11_noneBurns 2 none (1, 0, 0) 2 [some (.ref l0), some (.int l1)] [] h (0, 0) (q_u Q)
  | 0, _, _, _, Q, hw => (wp_no hw).elim
  | n + 1, l0, l1, h, Q, hw => f_X11_noneBurns_2_bok (N := N) hs (f_X11_noneBurns_2_ok (N := N) hs n) l0 l1 h Q hw
set_option maxHeartbeats 4000000 in
set_option maxRecDepth 100000 in
theorem s_X11_noneBurns {Γ : GX} (hs : SF Γ) {N : Nat} (l0 : Nat) (h : PH) (Q : Unit → PH → Prop) (hw : wp (f_X11_noneBurns N l0 h) Q) : Spec Γ yX11_noneBurns cX11_noneBurns 2 none (1, 0, 0) [.ref l0] h (q_u Q) := by
  refine Spec.of (by decide) (Nat.le_of_ble_eq_true rfl) [some (.ref l0), none] rfl ?_
  unfold f_X11_noneBurns at hw
  refine G_iconst (v := (0 : Int32)) dX11_noneBurns_0 (by decide) ?_
  refine G_istore_n (lv' := [some (.ref l0), some (.int (0 : Int32))]) dX11_noneBurns_1 (Nat.le_of_ble_eq_true rfl) rfl ?_
  refine G.less [some (.ref l0), some (.int (0 : Int32))] ⟨rfl, ⟨rfl, trivial⟩⟩ ?_
  exact f_X11_noneBurns_2_ok hs N _ _ h Q hw
set_option maxHeartbeats 4000000 in
set_option maxRecDepth 100000 in
theorem f_X11_firstOf_2_bok {Γ : GX} (hs : SF Γ) {N : Nat} {K_2 : Nat → Int32 → Int32 → PH → Option (Int32 × PH)} (hK_2 : ∀ (l0 : Nat) (l1 : Int32) (l2 : Int32) (h : PH) (Q : Int32 → PH → Prop), wp (K_2 l0 l1 l2 h) Q → G Γ yX11_firstOf cX11_firstOf 3 (some .int) (4, 0, 0) 2 [some (.ref l0), some (.int l1), some (.int l2)] [] h (0, 0) (q_i Q)) (l0 : Nat) (l1 : Int32) (l2 : Int32) (h : PH) (Q : Int32 → PH → Prop) (hw : wp (f_X11_firstOf_2_b N K_2 l0 l1 l2 h) Q) : G Γ yX11_firstOf cX11_firstOf 3 (some .int) (4, 0, 0) 2 [some (.ref l0), some (.int l1), some (.int l2)] [] h (0, 0) (q_i Q) := by
  unfold f_X11_firstOf_2_b at hw
  refine G_aload_n dX11_firstOf_2 rfl ?_
  refine G_iload_n dX11_firstOf_3 rfl ?_
  refine G_iload_n dX11_firstOf_4 rfl ?_
  obtain ⟨c3, hw⟩ := wp_ck hw
  refine G_callV (As := [.int l1, .int l2]) (s_X11_mayBurn hs l0 l1 l2 h _ (wp_cl hw)) ca_X11_mayBurn w_1921 w_102 (ci := 10) rfl (by decide) w_1919 c3 (Nat.le_of_ble_eq_true rfl) (Nat.le_of_ble_eq_true rfl) rfl (Nat.le_of_ble_eq_true rfl) (Nat.le_of_ble_eq_true rfl) (Nat.le_of_ble_eq_true rfl) dX11_firstOf_5 rfl (fun v h2 hq => ?_)
  obtain ⟨r1, rfl, hw⟩ := hq
  refine G.cse (cs' := (0, 0)) rfl ?_
  show GZ _ _ _ _ _ _ _ 8 _ (.int r1 :: []) _ _
  have hw := wp_if hw
  refine G_if_ne (tgt := 17) dX11_firstOf_8 rfl (fun c4 => ?_) (fun c4 => ?_)
  · have hw := hw.2 c4
    refine G_iload_n dX11_firstOf_17 rfl ?_
    exact G_ireturn rfl dX11_firstOf_18 ⟨_, rfl, wp_ret hw⟩
  · have hw := hw.1 c4
    obtain ⟨v5, ev5⟩ : ∃ z : Int32, z = l2 + (1 : Int32) := ⟨_, rfl⟩
    have hw := wp_bd hw v5 ev5
    refine G_iinc (v := v5) (lv' := [some (.ref l0), some (.int l1), some (.int v5)]) dX11_firstOf_11 rfl (by rw [ev5]; rfl) (Nat.le_of_ble_eq_true rfl) rfl ?_
    refine G_goto (tgt := 2) dX11_firstOf_14 rfl ?_
    refine G.less [some (.ref l0), some (.int l1), some (.int v5)] ⟨rfl, ⟨rfl, ⟨rfl, trivial⟩⟩⟩ ?_
    exact hK_2 _ _ _ h2 Q hw
theorem f_X11_firstOf_2_ok {Γ : GX} (hs : SF Γ) {N : Nat} : ∀ (n : Nat) (l0 : Nat) (l1 : Int32) (l2 : Int32) (h : PH) (Q : Int32 → PH → Prop), wp (f_X11_firstOf_2 N n l0 l1 l2 h) Q → G Γ yX11_firstOf cX11_firstOf 3 (some .int) (4, 0, 0) 2 [some (.ref l0), some (.int l1), some (.int l2)] [] h (0, 0) (q_i Q)
  | 0, _, _, _, _, Q, hw => (wp_no hw).elim
  | n + 1, l0, l1, l2, h, Q, hw => f_X11_firstOf_2_bok (N := N) hs (f_X11_firstOf_2_ok (N := N) hs n) l0 l1 l2 h Q hw
set_option maxHeartbeats 4000000 in
set_option maxRecDepth 100000 in
theorem s_X11_firstOf {Γ : GX} (hs : SF Γ) {N : Nat} (l0 : Nat) (l1 : Int32) (h : PH) (Q : Int32 → PH → Prop) (hw : wp (f_X11_firstOf N l0 l1 h) Q) : Spec Γ yX11_firstOf cX11_firstOf 3 (some .int) (4, 0, 0) [.ref l0, .int l1] h (q_i Q) := by
  refine Spec.of (by decide) (Nat.le_of_ble_eq_true rfl) [some (.ref l0), some (.int l1), none] rfl ?_
  unfold f_X11_firstOf at hw
  refine G_iconst (v := (0 : Int32)) dX11_firstOf_0 (by decide) ?_
  refine G_istore_n (lv' := [some (.ref l0), some (.int l1), some (.int (0 : Int32))]) dX11_firstOf_1 (Nat.le_of_ble_eq_true rfl) rfl ?_
  refine G.less [some (.ref l0), some (.int l1), some (.int (0 : Int32))] ⟨rfl, ⟨rfl, ⟨rfl, trivial⟩⟩⟩ ?_
  exact f_X11_firstOf_2_ok hs N _ _ _ h Q hw
set_option maxHeartbeats 4000000 in
set_option maxRecDepth 100000 in
theorem f_X11_nextWay_74_ok {Γ : GX} (hs : SF Γ) {N : Nat} {K_2 : Nat → Int32 → Int32 → PH → Option (Int32 × PH)} (hK_2 : ∀ (l0 : Nat) (l1 : Int32) (l2 : Int32) (h : PH) (Q : Int32 → PH → Prop), wp (K_2 l0 l1 l2 h) Q → G Γ yX11_nextWay cX11_nextWay 3 (some .boolean) (5, 0, 0) 2 [some (.ref l0), some (.int l1), some (.int l2)] [] h (0, 0) (q_i Q)) (l0 : Nat) (l1 : Int32) (l2 : Int32) (h : PH) (Q : Int32 → PH → Prop) (hw : wp (f_X11_nextWay_74 N K_2 l0 l1 l2 h) Q) : G Γ yX11_nextWay cX11_nextWay 3 (some .boolean) (5, 0, 0) 74 [some (.ref l0), some (.int l1), some (.int l2)] [] h (0, 0) (q_i Q) := by
  unfold f_X11_nextWay_74 at hw
  obtain ⟨v1, ev1⟩ : ∃ z : Int32, z = l2 + (-1 : Int32) := ⟨_, rfl⟩
  have hw := wp_bd hw v1 ev1
  refine G_iinc (v := v1) (lv' := [some (.ref l0), some (.int l1), some (.int v1)]) dX11_nextWay_74 rfl (by rw [ev1]; rfl) (Nat.le_of_ble_eq_true rfl) rfl ?_
  refine G_goto (tgt := 2) dX11_nextWay_77 rfl ?_
  refine G.less [some (.ref l0), some (.int l1), some (.int v1)] ⟨rfl, ⟨rfl, ⟨rfl, trivial⟩⟩⟩ ?_
  exact hK_2 _ _ _ h Q hw
set_option maxHeartbeats 4000000 in
set_option maxRecDepth 100000 in
theorem f_X11_nextWay_51_ok {Γ : GX} (hs : SF Γ) {N : Nat} {K_2 : Nat → Int32 → Int32 → PH → Option (Int32 × PH)} (hK_2 : ∀ (l0 : Nat) (l1 : Int32) (l2 : Int32) (h : PH) (Q : Int32 → PH → Prop), wp (K_2 l0 l1 l2 h) Q → G Γ yX11_nextWay cX11_nextWay 3 (some .boolean) (5, 0, 0) 2 [some (.ref l0), some (.int l1), some (.int l2)] [] h (0, 0) (q_i Q)) (l0 : Nat) (l1 : Int32) (l2 : Int32) (h : PH) (Q : Int32 → PH → Prop) (hw : wp (f_X11_nextWay_51 N K_2 l0 l1 l2 h) Q) : G Γ yX11_nextWay cX11_nextWay 3 (some .boolean) (5, 0, 0) 51 [some (.ref l0), some (.int l1), some (.int l2)] [] h (0, 0) (q_i Q) := by
  unfold f_X11_nextWay_51 at hw
  refine G_aload_n dX11_nextWay_51 rfl ?_
  obtain ⟨c1, hw⟩ := wp_ck hw
  refine G_getR fl_X11_way w_1450 dX11_nextWay_52 c1 ?_
  obtain ⟨a2, ea2, hw⟩ := wp_rq hw
  refine G.sure ea2 ?_
  refine G_iload_n dX11_nextWay_55 rfl ?_
  obtain ⟨c3, hw⟩ := wp_ck hw
  obtain ⟨c4, hw⟩ := wp_ck hw
  refine G_iaload dX11_nextWay_56 c3 c4 ?_
  refine G_iconst (v := (5 : Int32)) dX11_nextWay_57 (by decide) ?_
  have hw := wp_if hw
  refine G_icmp_gt (tgt := 63) dX11_nextWay_58 rfl (fun c5 => ?_) (fun c5 => ?_)
  · have hw := hw.1 c5
    refine G_aload_n dX11_nextWay_63 rfl ?_
    refine G_getR fl_X11_way w_1450 dX11_nextWay_64 c1 ?_
    obtain ⟨a6, ea6, hw⟩ := wp_rq hw
    refine G.sure ea6 ?_
    refine G_iload_n dX11_nextWay_67 rfl ?_
    refine G_aload_n dX11_nextWay_68 rfl ?_
    refine G_iload_n dX11_nextWay_69 rfl ?_
    refine G_callV (As := [.int l2]) (s_X11_firstOf hs l0 l2 h _ (wp_cl hw)) ca_X11_firstOf w_1917 w_101 (ci := 10) rfl (by decide) w_1915 c1 (Nat.le_of_ble_eq_true rfl) (Nat.le_of_ble_eq_true rfl) rfl (Nat.le_of_ble_eq_true rfl) (Nat.le_of_ble_eq_true rfl) (Nat.le_of_ble_eq_true rfl) dX11_nextWay_70 rfl (fun v h8 hq => ?_)
    obtain ⟨r7, rfl, hw⟩ := hq
    refine G.cse (cs' := (0, 0)) rfl ?_
    show GZ _ _ _ _ _ _ _ 73 _ (.int r7 :: [.int l2, .ref a6]) _ _
    obtain ⟨c9, hw⟩ := wp_ck hw
    obtain ⟨c10, hw⟩ := wp_ck hw
    refine G_iastore dX11_nextWay_73 c9 c10 ?_
    refine G.nmh fun h11 eh11 => ?_
    have hw := wp_bd hw h11 eh11
    refine G.less [some (.ref l0), some (.int l1), some (.int l2)] ⟨rfl, ⟨rfl, ⟨rfl, trivial⟩⟩⟩ ?_
    exact f_X11_nextWay_74_ok hs hK_2 _ _ _ h11 Q hw
  · have hw := hw.2 c5
    refine G_iconst (v := (1 : Int32)) dX11_nextWay_61 (by decide) ?_
    exact G_zreturn rfl dX11_nextWay_62 rfl ⟨_, rfl, wp_ret hw⟩
set_option maxHeartbeats 4000000 in
set_option maxRecDepth 100000 in
theorem f_X11_nextWay_17_bok {Γ : GX} (hs : SF Γ) {N : Nat} {K_2 : Nat → Int32 → Int32 → PH → Option (Int32 × PH)} {K_17 : Nat → Int32 → Int32 → PH → Option (Int32 × PH)} (hK_2 : ∀ (l0 : Nat) (l1 : Int32) (l2 : Int32) (h : PH) (Q : Int32 → PH → Prop), wp (K_2 l0 l1 l2 h) Q → G Γ yX11_nextWay cX11_nextWay 3 (some .boolean) (5, 0, 0) 2 [some (.ref l0), some (.int l1), some (.int l2)] [] h (0, 0) (q_i Q)) (hK_17 : ∀ (l0 : Nat) (l1 : Int32) (l2 : Int32) (h : PH) (Q : Int32 → PH → Prop), wp (K_17 l0 l1 l2 h) Q → G Γ yX11_nextWay cX11_nextWay 3 (some .boolean) (5, 0, 0) 17 [some (.ref l0), some (.int l1), some (.int l2)] [] h (0, 0) (q_i Q)) (l0 : Nat) (l1 : Int32) (l2 : Int32) (h : PH) (Q : Int32 → PH → Prop) (hw : wp (f_X11_nextWay_17_b N K_2 K_17 l0 l1 l2 h) Q) : G Γ yX11_nextWay cX11_nextWay 3 (some .boolean) (5, 0, 0) 17 [some (.ref l0), some (.int l1), some (.int l2)] [] h (0, 0) (q_i Q) := by
  unfold f_X11_nextWay_17_b at hw
  refine G_aload_n dX11_nextWay_17 rfl ?_
  obtain ⟨c1, hw⟩ := wp_ck hw
  refine G_getR fl_X11_way w_1450 dX11_nextWay_18 c1 ?_
  obtain ⟨a2, ea2, hw⟩ := wp_rq hw
  refine G.sure ea2 ?_
  refine G_iload_n dX11_nextWay_21 rfl ?_
  refine G_dup2 dX11_nextWay_22 rfl rfl ?_
  obtain ⟨c3, hw⟩ := wp_ck hw
  obtain ⟨c4, hw⟩ := wp_ck hw
  refine G_iaload dX11_nextWay_23 c3 c4 ?_
  refine G_iconst (v := (1 : Int32)) dX11_nextWay_24 (by decide) ?_
  refine G_iadd dX11_nextWay_25 ?_
  refine G_iastore dX11_nextWay_26 c3 c4 ?_
  refine G.nmh fun h5 eh5 => ?_
  have hw := wp_bd hw h5 eh5
  refine G_aload_n dX11_nextWay_27 rfl ?_
  obtain ⟨c6, hw⟩ := wp_ck hw
  refine G_getR fl_X11_way w_1450 dX11_nextWay_28 c6 ?_
  obtain ⟨a7, ea7, hw⟩ := wp_rq hw
  refine G.sure ea7 ?_
  refine G_iload_n dX11_nextWay_31 rfl ?_
  obtain ⟨c8, hw⟩ := wp_ck hw
  obtain ⟨c9, hw⟩ := wp_ck hw
  refine G_iaload dX11_nextWay_32 c8 c9 ?_
  refine G_iconst (v := (5 : Int32)) dX11_nextWay_33 (by decide) ?_
  have hw := wp_if hw
  refine G_icmp_ge (tgt := 51) dX11_nextWay_34 rfl (fun c10 => ?_) (fun c10 => ?_)
  · have hw := hw.1 c10
    refine G.less [some (.ref l0), some (.int l1), some (.int l2)] ⟨rfl, ⟨rfl, ⟨rfl, trivial⟩⟩⟩ ?_
    exact f_X11_nextWay_51_ok hs hK_2 _ _ _ h5 Q hw
  · have hw := hw.2 c10
    refine G_aload_n dX11_nextWay_37 rfl ?_
    refine G_iload_n dX11_nextWay_38 rfl ?_
    refine G_aload_n dX11_nextWay_39 rfl ?_
    refine G_getR fl_X11_way w_1450 dX11_nextWay_40 c6 ?_
    obtain ⟨a11, ea11, hw⟩ := wp_rq hw
    refine G.sure ea11 ?_
    refine G_iload_n dX11_nextWay_43 rfl ?_
    obtain ⟨c12, hw⟩ := wp_ck hw
    obtain ⟨c13, hw⟩ := wp_ck hw
    refine G_iaload dX11_nextWay_44 c12 c13 ?_
    refine G_callV (As := [.int l2, .int (hI h5 a11 (ix l2))]) (s_X11_mayBurn hs l0 l2 (hI h5 a11 (ix l2)) h5 _ (wp_cl hw)) ca_X11_mayBurn w_1921 w_102 (ci := 10) rfl (by decide) w_1919 c6 (Nat.le_of_ble_eq_true rfl) (Nat.le_of_ble_eq_true rfl) rfl (Nat.le_of_ble_eq_true rfl) (Nat.le_of_ble_eq_true rfl) (Nat.le_of_ble_eq_true rfl) dX11_nextWay_45 rfl (fun v h15 hq => ?_)
    obtain ⟨r14, rfl, hw⟩ := hq
    refine G.cse (cs' := (0, 0)) rfl ?_
    show GZ _ _ _ _ _ _ _ 48 _ (.int r14 :: []) _ _
    have hw := wp_if hw
    refine G_if_eq (tgt := 17) dX11_nextWay_48 rfl (fun c16 => ?_) (fun c16 => ?_)
    · have hw := hw.1 c16
      refine G.less [some (.ref l0), some (.int l1), some (.int l2)] ⟨rfl, ⟨rfl, ⟨rfl, trivial⟩⟩⟩ ?_
      exact hK_17 _ _ _ h15 Q hw
    · have hw := hw.2 c16
      refine G.less [some (.ref l0), some (.int l1), some (.int l2)] ⟨rfl, ⟨rfl, ⟨rfl, trivial⟩⟩⟩ ?_
      exact f_X11_nextWay_51_ok hs hK_2 _ _ _ h15 Q hw
theorem f_X11_nextWay_17_ok {Γ : GX} (hs : SF Γ) {N : Nat} {K_2 : Nat → Int32 → Int32 → PH → Option (Int32 × PH)} (hK_2 : ∀ (l0 : Nat) (l1 : Int32) (l2 : Int32) (h : PH) (Q : Int32 → PH → Prop), wp (K_2 l0 l1 l2 h) Q → G Γ yX11_nextWay cX11_nextWay 3 (some .boolean) (5, 0, 0) 2 [some (.ref l0), some (.int l1), some (.int l2)] [] h (0, 0) (q_i Q)) : ∀ (n : Nat) (l0 : Nat) (l1 : Int32) (l2 : Int32) (h : PH) (Q : Int32 → PH → Prop), wp (f_X11_nextWay_17 N K_2 n l0 l1 l2 h) Q → G Γ yX11_nextWay cX11_nextWay 3 (some .boolean) (5, 0, 0) 17 [some (.ref l0), some (.int l1), some (.int l2)] [] h (0, 0) (q_i Q)
  | 0, _, _, _, _, Q, hw => (wp_no hw).elim
  | n + 1, l0, l1, l2, h, Q, hw => f_X11_nextWay_17_bok (N := N) hs hK_2 (f_X11_nextWay_17_ok (N := N) hs hK_2 n) l0 l1 l2 h Q hw
set_option maxHeartbeats 4000000 in
set_option maxRecDepth 100000 in
theorem f_X11_nextWay_2_bok {Γ : GX} (hs : SF Γ) {N : Nat} {K_2 : Nat → Int32 → Int32 → PH → Option (Int32 × PH)} (hK_2 : ∀ (l0 : Nat) (l1 : Int32) (l2 : Int32) (h : PH) (Q : Int32 → PH → Prop), wp (K_2 l0 l1 l2 h) Q → G Γ yX11_nextWay cX11_nextWay 3 (some .boolean) (5, 0, 0) 2 [some (.ref l0), some (.int l1), some (.int l2)] [] h (0, 0) (q_i Q)) (l0 : Nat) (l1 : Int32) (l2 : Int32) (h : PH) (Q : Int32 → PH → Prop) (hw : wp (f_X11_nextWay_2_b N K_2 l0 l1 l2 h) Q) : G Γ yX11_nextWay cX11_nextWay 3 (some .boolean) (5, 0, 0) 2 [some (.ref l0), some (.int l1), some (.int l2)] [] h (0, 0) (q_i Q) := by
  unfold f_X11_nextWay_2_b at hw
  refine G_iload_n dX11_nextWay_2 rfl ?_
  have hw := wp_if hw
  refine G_if_lt (tgt := 80) dX11_nextWay_3 rfl (fun c1 => ?_) (fun c1 => ?_)
  · have hw := hw.1 c1
    refine G_iconst (v := (0 : Int32)) dX11_nextWay_80 (by decide) ?_
    exact G_zreturn rfl dX11_nextWay_81 rfl ⟨_, rfl, wp_ret hw⟩
  · have hw := hw.2 c1
    refine G_iload_n dX11_nextWay_6 rfl ?_
    refine G_iload_n dX11_nextWay_7 rfl ?_
    refine G_ishr dX11_nextWay_8 ?_
    refine G_iconst (v := (1 : Int32)) dX11_nextWay_9 (by decide) ?_
    refine G_iand dX11_nextWay_10 ?_
    have hw := wp_if hw
    refine G_if_ne (tgt := 17) dX11_nextWay_11 rfl (fun c2 => ?_) (fun c2 => ?_)
    · have hw := hw.2 c2
      refine G.less [some (.ref l0), some (.int l1), some (.int l2)] ⟨rfl, ⟨rfl, ⟨rfl, trivial⟩⟩⟩ ?_
      exact f_X11_nextWay_17_ok hs hK_2 N _ _ _ h Q hw
    · have hw := hw.1 c2
      refine G_goto (tgt := 74) dX11_nextWay_14 rfl ?_
      refine G.less [some (.ref l0), some (.int l1), some (.int l2)] ⟨rfl, ⟨rfl, ⟨rfl, trivial⟩⟩⟩ ?_
      exact f_X11_nextWay_74_ok hs hK_2 _ _ _ h Q hw
theorem f_X11_nextWay_2_ok {Γ : GX} (hs : SF Γ) {N : Nat} : ∀ (n : Nat) (l0 : Nat) (l1 : Int32) (l2 : Int32) (h : PH) (Q : Int32 → PH → Prop), wp (f_X11_nextWay_2 N n l0 l1 l2 h) Q → G Γ yX11_nextWay cX11_nextWay 3 (some .boolean) (5, 0, 0) 2 [some (.ref l0), some (.int l1), some (.int l2)] [] h (0, 0) (q_i Q)
  | 0, _, _, _, _, Q, hw => (wp_no hw).elim
  | n + 1, l0, l1, l2, h, Q, hw => f_X11_nextWay_2_bok (N := N) hs (f_X11_nextWay_2_ok (N := N) hs n) l0 l1 l2 h Q hw
set_option maxHeartbeats 4000000 in
set_option maxRecDepth 100000 in
theorem s_X11_nextWay {Γ : GX} (hs : SF Γ) {N : Nat} (l0 : Nat) (l1 : Int32) (h : PH) (Q : Int32 → PH → Prop) (hw : wp (f_X11_nextWay N l0 l1 h) Q) : Spec Γ yX11_nextWay cX11_nextWay 3 (some .boolean) (5, 0, 0) [.ref l0, .int l1] h (q_i Q) := by
  refine Spec.of (by decide) (Nat.le_of_ble_eq_true rfl) [some (.ref l0), some (.int l1), none] rfl ?_
  unfold f_X11_nextWay at hw
  refine G_iconst (v := (3 : Int32)) dX11_nextWay_0 (by decide) ?_
  refine G_istore_n (lv' := [some (.ref l0), some (.int l1), some (.int (3 : Int32))]) dX11_nextWay_1 (Nat.le_of_ble_eq_true rfl) rfl ?_
  refine G.less [some (.ref l0), some (.int l1), some (.int (3 : Int32))] ⟨rfl, ⟨rfl, ⟨rfl, trivial⟩⟩⟩ ?_
  exact f_X11_nextWay_2_ok hs N _ _ _ h Q hw
set_option maxHeartbeats 4000000 in
set_option maxRecDepth 100000 in
theorem f_X11_firstWay_30_ok {Γ : GX} (hs : SF Γ) {N : Nat} {K_2 : Nat → Int32 → Int32 → PH → Option (Unit × PH)} (hK_2 : ∀ (l0 : Nat) (l1 : Int32) (l2 : Int32) (h : PH) (Q : Unit → PH → Prop), wp (K_2 l0 l1 l2 h) Q → G Γ yX11_firstWay cX11_firstWay 3 none (5, 0, 0) 2 [some (.ref l0), some (.int l1), some (.int l2)] [] h (0, 0) (q_u Q)) (s0 : Int32) (s1 : Int32) (s2 : Nat) (l0 : Nat) (l1 : Int32) (l2 : Int32) (h : PH) (Q : Unit → PH → Prop) (hw : wp (f_X11_firstWay_30 N K_2 s0 s1 s2 l0 l1 l2 h) Q) : G Γ yX11_firstWay cX11_firstWay 3 none (5, 0, 0) 30 [some (.ref l0), some (.int l1), some (.int l2)] [.int s0, .int s1, .ref s2] h (0, 0) (q_u Q) := by
  unfold f_X11_firstWay_30 at hw
  obtain ⟨c1, hw⟩ := wp_ck hw
  obtain ⟨c2, hw⟩ := wp_ck hw
  refine G_iastore dX11_firstWay_30 c1 c2 ?_
  refine G.nmh fun h3 eh3 => ?_
  have hw := wp_bd hw h3 eh3
  obtain ⟨v4, ev4⟩ : ∃ z : Int32, z = l2 + (1 : Int32) := ⟨_, rfl⟩
  have hw := wp_bd hw v4 ev4
  refine G_iinc (v := v4) (lv' := [some (.ref l0), some (.int l1), some (.int v4)]) dX11_firstWay_31 rfl (by rw [ev4]; rfl) (Nat.le_of_ble_eq_true rfl) rfl ?_
  refine G_goto (tgt := 2) dX11_firstWay_34 rfl ?_
  refine G.less [some (.ref l0), some (.int l1), some (.int v4)] ⟨rfl, ⟨rfl, ⟨rfl, trivial⟩⟩⟩ ?_
  exact hK_2 _ _ _ h3 Q hw
set_option maxHeartbeats 4000000 in
set_option maxRecDepth 100000 in
theorem f_X11_firstWay_2_bok {Γ : GX} (hs : SF Γ) {N : Nat} {K_2 : Nat → Int32 → Int32 → PH → Option (Unit × PH)} (hK_2 : ∀ (l0 : Nat) (l1 : Int32) (l2 : Int32) (h : PH) (Q : Unit → PH → Prop), wp (K_2 l0 l1 l2 h) Q → G Γ yX11_firstWay cX11_firstWay 3 none (5, 0, 0) 2 [some (.ref l0), some (.int l1), some (.int l2)] [] h (0, 0) (q_u Q)) (l0 : Nat) (l1 : Int32) (l2 : Int32) (h : PH) (Q : Unit → PH → Prop) (hw : wp (f_X11_firstWay_2_b N K_2 l0 l1 l2 h) Q) : G Γ yX11_firstWay cX11_firstWay 3 none (5, 0, 0) 2 [some (.ref l0), some (.int l1), some (.int l2)] [] h (0, 0) (q_u Q) := by
  unfold f_X11_firstWay_2_b at hw
  refine G_iload_n dX11_firstWay_2 rfl ?_
  refine G_iconst (v := (4 : Int32)) dX11_firstWay_3 (by decide) ?_
  have hw := wp_if hw
  refine G_icmp_ge (tgt := 37) dX11_firstWay_4 rfl (fun c1 => ?_) (fun c1 => ?_)
  · have hw := hw.1 c1
    exact G_vreturn rfl dX11_firstWay_37 ⟨rfl, wp_ret hw⟩
  · have hw := hw.2 c1
    refine G_aload_n dX11_firstWay_7 rfl ?_
    obtain ⟨c2, hw⟩ := wp_ck hw
    refine G_getR fl_X11_way w_1450 dX11_firstWay_8 c2 ?_
    obtain ⟨a3, ea3, hw⟩ := wp_rq hw
    refine G.sure ea3 ?_
    refine G_iload_n dX11_firstWay_11 rfl ?_
    refine G_iload_n dX11_firstWay_12 rfl ?_
    refine G_iload_n dX11_firstWay_13 rfl ?_
    refine G_ishr dX11_firstWay_14 ?_
    refine G_iconst (v := (1 : Int32)) dX11_firstWay_15 (by decide) ?_
    refine G_iand dX11_firstWay_16 ?_
    refine G_iconst (v := (1 : Int32)) dX11_firstWay_17 (by decide) ?_
    have hw := wp_if hw
    refine G_icmp_ne (tgt := 29) dX11_firstWay_18 rfl (fun c4 => ?_) (fun c4 => ?_)
    · have hw := hw.2 c4
      refine G_iconst (v := (5 : Int32)) dX11_firstWay_29 (by decide) ?_
      refine G.less [some (.ref l0), some (.int l1), some (.int l2)] ⟨rfl, ⟨rfl, ⟨rfl, trivial⟩⟩⟩ ?_
      exact f_X11_firstWay_30_ok hs hK_2 _ _ _ _ _ _ h Q hw
    · have hw := hw.1 c4
      refine G_aload_n dX11_firstWay_21 rfl ?_
      refine G_iload_n dX11_firstWay_22 rfl ?_
      refine G_callV (As := [.int l2]) (s_X11_firstOf hs l0 l2 h _ (wp_cl hw)) ca_X11_firstOf w_1917 w_101 (ci := 10) rfl (by decide) w_1915 c2 (Nat.le_of_ble_eq_true rfl) (Nat.le_of_ble_eq_true rfl) rfl (Nat.le_of_ble_eq_true rfl) (Nat.le_of_ble_eq_true rfl) (Nat.le_of_ble_eq_true rfl) dX11_firstWay_23 rfl (fun v h6 hq => ?_)
      obtain ⟨r5, rfl, hw⟩ := hq
      refine G.cse (cs' := (0, 0)) rfl ?_
      show GZ _ _ _ _ _ _ _ 26 _ (.int r5 :: [.int l2, .ref a3]) _ _
      refine G_goto (tgt := 30) dX11_firstWay_26 rfl ?_
      refine G.less [some (.ref l0), some (.int l1), some (.int l2)] ⟨rfl, ⟨rfl, ⟨rfl, trivial⟩⟩⟩ ?_
      exact f_X11_firstWay_30_ok hs hK_2 _ _ _ _ _ _ h6 Q hw
theorem f_X11_firstWay_2_ok {Γ : GX} (hs : SF Γ) {N : Nat} : ∀ (n : Nat) (l0 : Nat) (l1 : Int32) (l2 : Int32) (h : PH) (Q : Unit → PH → Prop), wp (f_X11_firstWay_2 N n l0 l1 l2 h) Q → G Γ yX11_firstWay cX11_firstWay 3 none (5, 0, 0) 2 [some (.ref l0), some (.int l1), some (.int l2)] [] h (0, 0) (q_u Q)
  | 0, _, _, _, _, Q, hw => (wp_no hw).elim
  | n + 1, l0, l1, l2, h, Q, hw => f_X11_firstWay_2_bok (N := N) hs (f_X11_firstWay_2_ok (N := N) hs n) l0 l1 l2 h Q hw
set_option maxHeartbeats 4000000 in
set_option maxRecDepth 100000 in
theorem s_X11_firstWay {Γ : GX} (hs : SF Γ) {N : Nat} (l0 : Nat) (l1 : Int32) (h : PH) (Q : Unit → PH → Prop) (hw : wp (f_X11_firstWay N l0 l1 h) Q) : Spec Γ yX11_firstWay cX11_firstWay 3 none (5, 0, 0) [.ref l0, .int l1] h (q_u Q) := by
  refine Spec.of (by decide) (Nat.le_of_ble_eq_true rfl) [some (.ref l0), some (.int l1), none] rfl ?_
  unfold f_X11_firstWay at hw
  refine G_iconst (v := (0 : Int32)) dX11_firstWay_0 (by decide) ?_
  refine G_istore_n (lv' := [some (.ref l0), some (.int l1), some (.int (0 : Int32))]) dX11_firstWay_1 (Nat.le_of_ble_eq_true rfl) rfl ?_
  refine G.less [some (.ref l0), some (.int l1), some (.int (0 : Int32))] ⟨rfl, ⟨rfl, ⟨rfl, trivial⟩⟩⟩ ?_
  exact f_X11_firstWay_2_ok hs N _ _ _ h Q hw
set_option maxHeartbeats 4000000 in
set_option maxRecDepth 100000 in
theorem f_X11_withoutFire_39_ok {Γ : GX} (hs : SF Γ) {N : Nat} {K_4 : Nat → Int32 → Int32 → Int32 → PH → Option (Int32 × PH)} (hK_4 : ∀ (l0 : Nat) (l1 : Int32) (l2 : Int32) (l3 : Int32) (h : PH) (Q : Int32 → PH → Prop), wp (K_4 l0 l1 l2 l3 h) Q → G Γ yX11_withoutFire cX11_withoutFire 4 (some .int) (2, 0, 0) 4 [some (.ref l0), some (.int l1), some (.int l2), some (.int l3)] [] h (0, 0) (q_i Q)) (s0 : Int32) (s1 : Int32) (l0 : Nat) (l1 : Int32) (l3 : Int32) (h : PH) (Q : Int32 → PH → Prop) (hw : wp (f_X11_withoutFire_39 N K_4 s0 s1 l0 l1 l3 h) Q) : G Γ yX11_withoutFire cX11_withoutFire 4 (some .int) (2, 0, 0) 39 [some (.ref l0), some (.int l1), none, some (.int l3)] [.int s0, .int s1] h (0, 0) (q_i Q) := by
  unfold f_X11_withoutFire_39 at hw
  refine G_ior dX11_withoutFire_39 ?_
  refine G.topi fun v1 ev1 => ?_
  have hw := wp_bd hw v1 ev1
  refine G_istore_n (lv' := [some (.ref l0), some (.int l1), some (.int v1), some (.int l3)]) dX11_withoutFire_40 (Nat.le_of_ble_eq_true rfl) rfl ?_
  obtain ⟨v2, ev2⟩ : ∃ z : Int32, z = l3 + (1 : Int32) := ⟨_, rfl⟩
  have hw := wp_bd hw v2 ev2
  refine G_iinc (v := v2) (lv' := [some (.ref l0), some (.int l1), some (.int v1), some (.int v2)]) dX11_withoutFire_41 rfl (by rw [ev2]; rfl) (Nat.le_of_ble_eq_true rfl) rfl ?_
  refine G_goto (tgt := 4) dX11_withoutFire_44 rfl ?_
  refine G.less [some (.ref l0), some (.int l1), some (.int v1), some (.int v2)] ⟨rfl, ⟨rfl, ⟨rfl, ⟨rfl, trivial⟩⟩⟩⟩ ?_
  exact hK_4 _ _ _ _ h Q hw
set_option maxHeartbeats 4000000 in
set_option maxRecDepth 100000 in
theorem f_X11_withoutFire_38_ok {Γ : GX} (hs : SF Γ) {N : Nat} {K_4 : Nat → Int32 → Int32 → Int32 → PH → Option (Int32 × PH)} (hK_4 : ∀ (l0 : Nat) (l1 : Int32) (l2 : Int32) (l3 : Int32) (h : PH) (Q : Int32 → PH → Prop), wp (K_4 l0 l1 l2 l3 h) Q → G Γ yX11_withoutFire cX11_withoutFire 4 (some .int) (2, 0, 0) 4 [some (.ref l0), some (.int l1), some (.int l2), some (.int l3)] [] h (0, 0) (q_i Q)) (s0 : Int32) (l0 : Nat) (l1 : Int32) (l3 : Int32) (h : PH) (Q : Int32 → PH → Prop) (hw : wp (f_X11_withoutFire_38 N K_4 s0 l0 l1 l3 h) Q) : G Γ yX11_withoutFire cX11_withoutFire 4 (some .int) (2, 0, 0) 38 [some (.ref l0), some (.int l1), none, some (.int l3)] [.int s0] h (0, 0) (q_i Q) := by
  unfold f_X11_withoutFire_38 at hw
  refine G_iconst (v := (0 : Int32)) dX11_withoutFire_38 (by decide) ?_
  refine G.less [some (.ref l0), some (.int l1), none, some (.int l3)] ⟨rfl, ⟨rfl, ⟨rfl, trivial⟩⟩⟩ ?_
  exact f_X11_withoutFire_39_ok hs hK_4 _ _ _ _ _ h Q hw
set_option maxHeartbeats 4000000 in
set_option maxRecDepth 100000 in
theorem f_X11_withoutFire_4_bok {Γ : GX} (hs : SF Γ) {N : Nat} {K_4 : Nat → Int32 → Int32 → Int32 → PH → Option (Int32 × PH)} (hK_4 : ∀ (l0 : Nat) (l1 : Int32) (l2 : Int32) (l3 : Int32) (h : PH) (Q : Int32 → PH → Prop), wp (K_4 l0 l1 l2 l3 h) Q → G Γ yX11_withoutFire cX11_withoutFire 4 (some .int) (2, 0, 0) 4 [some (.ref l0), some (.int l1), some (.int l2), some (.int l3)] [] h (0, 0) (q_i Q)) (l0 : Nat) (l1 : Int32) (l2 : Int32) (l3 : Int32) (h : PH) (Q : Int32 → PH → Prop) (hw : wp (f_X11_withoutFire_4_b N K_4 l0 l1 l2 l3 h) Q) : G Γ yX11_withoutFire cX11_withoutFire 4 (some .int) (2, 0, 0) 4 [some (.ref l0), some (.int l1), some (.int l2), some (.int l3)] [] h (0, 0) (q_i Q) := by
  unfold f_X11_withoutFire_4_b at hw
  refine G_iload_n dX11_withoutFire_4 rfl ?_
  refine G_aload_n dX11_withoutFire_5 rfl ?_
  obtain ⟨c1, hw⟩ := wp_ck hw
  refine G_getR fl_X11_valley w_1403 dX11_withoutFire_6 c1 ?_
  obtain ⟨a2, ea2, hw⟩ := wp_rq hw
  refine G.sure ea2 ?_
  refine G_iconst (v := (2 : Int32)) dX11_withoutFire_9 (by decide) ?_
  obtain ⟨c3, hw⟩ := wp_ck hw
  obtain ⟨c4, hw⟩ := wp_ck hw
  refine G_ialoadK (k := 2) dX11_withoutFire_10 c3 (by decide) rfl c4 ?_
  have hw := wp_if hw
  refine G_icmp_ge (tgt := 47) dX11_withoutFire_11 rfl (fun c5 => ?_) (fun c5 => ?_)
  · have hw := hw.1 c5
    refine G_iload_n dX11_withoutFire_47 rfl ?_
    exact G_ireturn rfl dX11_withoutFire_48 ⟨_, rfl, wp_ret hw⟩
  · have hw := hw.2 c5
    refine G_iload_n dX11_withoutFire_14 rfl ?_
    refine G_iload_n dX11_withoutFire_15 rfl ?_
    refine G_iload_n dX11_withoutFire_16 rfl ?_
    refine G_ishr dX11_withoutFire_17 ?_
    refine G_iconst (v := (1 : Int32)) dX11_withoutFire_18 (by decide) ?_
    refine G_iand dX11_withoutFire_19 ?_
    refine G_iconst (v := (1 : Int32)) dX11_withoutFire_20 (by decide) ?_
    have hw := wp_if hw
    refine G_icmp_ne (tgt := 38) dX11_withoutFire_21 rfl (fun c6 => ?_) (fun c6 => ?_)
    · have hw := hw.2 c6
      refine G.less [some (.ref l0), some (.int l1), none, some (.int l3)] ⟨rfl, ⟨rfl, ⟨rfl, trivial⟩⟩⟩ ?_
      exact f_X11_withoutFire_38_ok hs hK_4 _ _ _ _ h Q hw
    · have hw := hw.1 c6
      refine G_aload_n dX11_withoutFire_24 rfl ?_
      refine G_iload_n dX11_withoutFire_25 rfl ?_
      refine G_callV (As := [.int l3]) (s_X11_isFire hs l0 l3 h _ (wp_cl hw)) ca_X11_isFire w_1806 w_81 (ci := 10) rfl (by decide) w_1804 c1 (Nat.le_of_ble_eq_true rfl) (Nat.le_of_ble_eq_true rfl) rfl (Nat.le_of_ble_eq_true rfl) (Nat.le_of_ble_eq_true rfl) (Nat.le_of_ble_eq_true rfl) dX11_withoutFire_26 rfl (fun v h8 hq => ?_)
      obtain ⟨r7, rfl, hw⟩ := hq
      refine G.cse (cs' := (0, 0)) rfl ?_
      show GZ _ _ _ _ _ _ _ 29 _ (.int r7 :: [.int l2]) _ _
      have hw := wp_if hw
      refine G_if_ne (tgt := 38) dX11_withoutFire_29 rfl (fun c9 => ?_) (fun c9 => ?_)
      · have hw := hw.2 c9
        refine G.less [some (.ref l0), some (.int l1), none, some (.int l3)] ⟨rfl, ⟨rfl, ⟨rfl, trivial⟩⟩⟩ ?_
        exact f_X11_withoutFire_38_ok hs hK_4 _ _ _ _ h8 Q hw
      · have hw := hw.1 c9
        refine G_iconst (v := (1 : Int32)) dX11_withoutFire_32 (by decide) ?_
        refine G_iload_n dX11_withoutFire_33 rfl ?_
        refine G_ishl dX11_withoutFire_34 ?_
        refine G_goto (tgt := 39) dX11_withoutFire_35 rfl ?_
        refine G.less [some (.ref l0), some (.int l1), none, some (.int l3)] ⟨rfl, ⟨rfl, ⟨rfl, trivial⟩⟩⟩ ?_
        exact f_X11_withoutFire_39_ok hs hK_4 _ _ _ _ _ h8 Q hw
theorem f_X11_withoutFire_4_ok {Γ : GX} (hs : SF Γ) {N : Nat} : ∀ (n : Nat) (l0 : Nat) (l1 : Int32) (l2 : Int32) (l3 : Int32) (h : PH) (Q : Int32 → PH → Prop), wp (f_X11_withoutFire_4 N n l0 l1 l2 l3 h) Q → G Γ yX11_withoutFire cX11_withoutFire 4 (some .int) (2, 0, 0) 4 [some (.ref l0), some (.int l1), some (.int l2), some (.int l3)] [] h (0, 0) (q_i Q)
  | 0, _, _, _, _, _, Q, hw => (wp_no hw).elim
  | n + 1, l0, l1, l2, l3, h, Q, hw => f_X11_withoutFire_4_bok (N := N) hs (f_X11_withoutFire_4_ok (N := N) hs n) l0 l1 l2 l3 h Q hw
set_option maxHeartbeats 4000000 in
set_option maxRecDepth 100000 in
theorem s_X11_withoutFire {Γ : GX} (hs : SF Γ) {N : Nat} (l0 : Nat) (l1 : Int32) (h : PH) (Q : Int32 → PH → Prop) (hw : wp (f_X11_withoutFire N l0 l1 h) Q) : Spec Γ yX11_withoutFire cX11_withoutFire 4 (some .int) (2, 0, 0) [.ref l0, .int l1] h (q_i Q) := by
  refine Spec.of (by decide) (Nat.le_of_ble_eq_true rfl) [some (.ref l0), some (.int l1), none, none] rfl ?_
  unfold f_X11_withoutFire at hw
  refine G_iconst (v := (0 : Int32)) dX11_withoutFire_0 (by decide) ?_
  refine G_istore_n (lv' := [some (.ref l0), some (.int l1), some (.int (0 : Int32)), none]) dX11_withoutFire_1 (Nat.le_of_ble_eq_true rfl) rfl ?_
  refine G_iconst (v := (0 : Int32)) dX11_withoutFire_2 (by decide) ?_
  refine G_istore_n (lv' := [some (.ref l0), some (.int l1), some (.int (0 : Int32)), some (.int (0 : Int32))]) dX11_withoutFire_3 (Nat.le_of_ble_eq_true rfl) rfl ?_
  refine G.less [some (.ref l0), some (.int l1), some (.int (0 : Int32)), some (.int (0 : Int32))] ⟨rfl, ⟨rfl, ⟨rfl, ⟨rfl, trivial⟩⟩⟩⟩ ?_
  exact f_X11_withoutFire_4_ok hs N _ _ _ _ h Q hw
set_option maxHeartbeats 4000000 in
set_option maxRecDepth 100000 in
theorem f_X11_burnt_25_ok {Γ : GX} (hs : SF Γ) {N : Nat} {K_4 : Nat → Int32 → Int32 → PH → Option (Int32 × PH)} (hK_4 : ∀ (l0 : Nat) (l1 : Int32) (l2 : Int32) (h : PH) (Q : Int32 → PH → Prop), wp (K_4 l0 l1 l2 h) Q → G Γ yX11_burnt cX11_burnt 3 (some .int) (1, 0, 0) 4 [some (.ref l0), some (.int l1), some (.int l2)] [] h (0, 0) (q_i Q)) (s0 : Int32) (s1 : Int32) (l0 : Nat) (l2 : Int32) (h : PH) (Q : Int32 → PH → Prop) (hw : wp (f_X11_burnt_25 N K_4 s0 s1 l0 l2 h) Q) : G Γ yX11_burnt cX11_burnt 3 (some .int) (1, 0, 0) 25 [some (.ref l0), none, some (.int l2)] [.int s0, .int s1] h (0, 0) (q_i Q) := by
  unfold f_X11_burnt_25 at hw
  refine G_iadd dX11_burnt_25 ?_
  refine G.topi fun v1 ev1 => ?_
  have hw := wp_bd hw v1 ev1
  refine G_istore_n (lv' := [some (.ref l0), some (.int v1), some (.int l2)]) dX11_burnt_26 (Nat.le_of_ble_eq_true rfl) rfl ?_
  obtain ⟨v2, ev2⟩ : ∃ z : Int32, z = l2 + (1 : Int32) := ⟨_, rfl⟩
  have hw := wp_bd hw v2 ev2
  refine G_iinc (v := v2) (lv' := [some (.ref l0), some (.int v1), some (.int v2)]) dX11_burnt_27 rfl (by rw [ev2]; rfl) (Nat.le_of_ble_eq_true rfl) rfl ?_
  refine G_goto (tgt := 4) dX11_burnt_30 rfl ?_
  refine G.less [some (.ref l0), some (.int v1), some (.int v2)] ⟨rfl, ⟨rfl, ⟨rfl, trivial⟩⟩⟩ ?_
  exact hK_4 _ _ _ h Q hw
set_option maxHeartbeats 4000000 in
set_option maxRecDepth 100000 in
theorem f_X11_burnt_4_bok {Γ : GX} (hs : SF Γ) {N : Nat} {K_4 : Nat → Int32 → Int32 → PH → Option (Int32 × PH)} (hK_4 : ∀ (l0 : Nat) (l1 : Int32) (l2 : Int32) (h : PH) (Q : Int32 → PH → Prop), wp (K_4 l0 l1 l2 h) Q → G Γ yX11_burnt cX11_burnt 3 (some .int) (1, 0, 0) 4 [some (.ref l0), some (.int l1), some (.int l2)] [] h (0, 0) (q_i Q)) (l0 : Nat) (l1 : Int32) (l2 : Int32) (h : PH) (Q : Int32 → PH → Prop) (hw : wp (f_X11_burnt_4_b N K_4 l0 l1 l2 h) Q) : G Γ yX11_burnt cX11_burnt 3 (some .int) (1, 0, 0) 4 [some (.ref l0), some (.int l1), some (.int l2)] [] h (0, 0) (q_i Q) := by
  unfold f_X11_burnt_4_b at hw
  refine G_iload_n dX11_burnt_4 rfl ?_
  refine G_iconst (v := (4 : Int32)) dX11_burnt_5 (by decide) ?_
  have hw := wp_if hw
  refine G_icmp_ge (tgt := 33) dX11_burnt_6 rfl (fun c1 => ?_) (fun c1 => ?_)
  · have hw := hw.1 c1
    refine G_iload_n dX11_burnt_33 rfl ?_
    exact G_ireturn rfl dX11_burnt_34 ⟨_, rfl, wp_ret hw⟩
  · have hw := hw.2 c1
    refine G_iload_n dX11_burnt_9 rfl ?_
    refine G_aload_n dX11_burnt_10 rfl ?_
    obtain ⟨c2, hw⟩ := wp_ck hw
    refine G_getR fl_X11_way w_1450 dX11_burnt_11 c2 ?_
    obtain ⟨a3, ea3, hw⟩ := wp_rq hw
    refine G.sure ea3 ?_
    refine G_iload_n dX11_burnt_14 rfl ?_
    obtain ⟨c4, hw⟩ := wp_ck hw
    obtain ⟨c5, hw⟩ := wp_ck hw
    refine G_iaload dX11_burnt_15 c4 c5 ?_
    refine G_iconst (v := (5 : Int32)) dX11_burnt_16 (by decide) ?_
    have hw := wp_if hw
    refine G_icmp_ne (tgt := 24) dX11_burnt_17 rfl (fun c6 => ?_) (fun c6 => ?_)
    · have hw := hw.2 c6
      refine G_iconst (v := (1 : Int32)) dX11_burnt_24 (by decide) ?_
      refine G.less [some (.ref l0), none, some (.int l2)] ⟨rfl, ⟨rfl, trivial⟩⟩ ?_
      exact f_X11_burnt_25_ok hs hK_4 _ _ _ _ h Q hw
    · have hw := hw.1 c6
      refine G_iconst (v := (0 : Int32)) dX11_burnt_20 (by decide) ?_
      refine G_goto (tgt := 25) dX11_burnt_21 rfl ?_
      refine G.less [some (.ref l0), none, some (.int l2)] ⟨rfl, ⟨rfl, trivial⟩⟩ ?_
      exact f_X11_burnt_25_ok hs hK_4 _ _ _ _ h Q hw
theorem f_X11_burnt_4_ok {Γ : GX} (hs : SF Γ) {N : Nat} : ∀ (n : Nat) (l0 : Nat) (l1 : Int32) (l2 : Int32) (h : PH) (Q : Int32 → PH → Prop), wp (f_X11_burnt_4 N n l0 l1 l2 h) Q → G Γ yX11_burnt cX11_burnt 3 (some .int) (1, 0, 0) 4 [some (.ref l0), some (.int l1), some (.int l2)] [] h (0, 0) (q_i Q)
  | 0, _, _, _, _, Q, hw => (wp_no hw).elim
  | n + 1, l0, l1, l2, h, Q, hw => f_X11_burnt_4_bok (N := N) hs (f_X11_burnt_4_ok (N := N) hs n) l0 l1 l2 h Q hw
set_option maxHeartbeats 4000000 in
set_option maxRecDepth 100000 in
theorem s_X11_burnt {Γ : GX} (hs : SF Γ) {N : Nat} (l0 : Nat) (h : PH) (Q : Int32 → PH → Prop) (hw : wp (f_X11_burnt N l0 h) Q) : Spec Γ yX11_burnt cX11_burnt 3 (some .int) (1, 0, 0) [.ref l0] h (q_i Q) := by
  refine Spec.of (by decide) (Nat.le_of_ble_eq_true rfl) [some (.ref l0), none, none] rfl ?_
  unfold f_X11_burnt at hw
  refine G_iconst (v := (0 : Int32)) dX11_burnt_0 (by decide) ?_
  refine G_istore_n (lv' := [some (.ref l0), some (.int (0 : Int32)), none]) dX11_burnt_1 (Nat.le_of_ble_eq_true rfl) rfl ?_
  refine G_iconst (v := (0 : Int32)) dX11_burnt_2 (by decide) ?_
  refine G_istore_n (lv' := [some (.ref l0), some (.int (0 : Int32)), some (.int (0 : Int32))]) dX11_burnt_3 (Nat.le_of_ble_eq_true rfl) rfl ?_
  refine G.less [some (.ref l0), some (.int (0 : Int32)), some (.int (0 : Int32))] ⟨rfl, ⟨rfl, ⟨rfl, trivial⟩⟩⟩ ?_
  exact f_X11_burnt_4_ok hs N _ _ _ h Q hw
set_option maxHeartbeats 4000000 in
set_option maxRecDepth 100000 in
theorem f_X11_laysWay_28_ok {Γ : GX} (hs : SF Γ) {N : Nat} {K_2 : Nat → Int32 → PH → Option (Unit × PH)} (hK_2 : ∀ (l0 : Nat) (l1 : Int32) (h : PH) (Q : Unit → PH → Prop), wp (K_2 l0 l1 h) Q → G Γ yX11_laysWay cX11_laysWay 2 none (2, 0, 0) 2 [some (.ref l0), some (.int l1)] [] h (0, 0) (q_u Q)) (l0 : Nat) (l1 : Int32) (h : PH) (Q : Unit → PH → Prop) (hw : wp (f_X11_laysWay_28 N K_2 l0 l1 h) Q) : G Γ yX11_laysWay cX11_laysWay 2 none (2, 0, 0) 28 [some (.ref l0), some (.int l1)] [] h (0, 0) (q_u Q) := by
  unfold f_X11_laysWay_28 at hw
  obtain ⟨v1, ev1⟩ : ∃ z : Int32, z = l1 + (1 : Int32) := ⟨_, rfl⟩
  have hw := wp_bd hw v1 ev1
  refine G_iinc (v := v1) (lv' := [some (.ref l0), some (.int v1)]) dX11_laysWay_28 rfl (by rw [ev1]; rfl) (Nat.le_of_ble_eq_true rfl) rfl ?_
  refine G_goto (tgt := 2) dX11_laysWay_31 rfl ?_
  refine G.less [some (.ref l0), some (.int v1)] ⟨rfl, ⟨rfl, trivial⟩⟩ ?_
  exact hK_2 _ _ h Q hw
set_option maxHeartbeats 4000000 in
set_option maxRecDepth 100000 in
theorem f_X11_laysWay_2_bok {Γ : GX} (hs : SF Γ) {N : Nat} {K_2 : Nat → Int32 → PH → Option (Unit × PH)} (hK_2 : ∀ (l0 : Nat) (l1 : Int32) (h : PH) (Q : Unit → PH → Prop), wp (K_2 l0 l1 h) Q → G Γ yX11_laysWay cX11_laysWay 2 none (2, 0, 0) 2 [some (.ref l0), some (.int l1)] [] h (0, 0) (q_u Q)) (l0 : Nat) (l1 : Int32) (h : PH) (Q : Unit → PH → Prop) (hw : wp (f_X11_laysWay_2_b N K_2 l0 l1 h) Q) : G Γ yX11_laysWay cX11_laysWay 2 none (2, 0, 0) 2 [some (.ref l0), some (.int l1)] [] h (0, 0) (q_u Q) := by
  unfold f_X11_laysWay_2_b at hw
  refine G_iload_n dX11_laysWay_2 rfl ?_
  refine G_iconst (v := (4 : Int32)) dX11_laysWay_3 (by decide) ?_
  have hw := wp_if hw
  refine G_icmp_ge (tgt := 34) dX11_laysWay_4 rfl (fun c1 => ?_) (fun c1 => ?_)
  · have hw := hw.1 c1
    exact G_vreturn rfl dX11_laysWay_34 ⟨rfl, wp_ret hw⟩
  · have hw := hw.2 c1
    refine G_aload_n dX11_laysWay_7 rfl ?_
    obtain ⟨c2, hw⟩ := wp_ck hw
    refine G_getR fl_X11_way w_1450 dX11_laysWay_8 c2 ?_
    obtain ⟨a3, ea3, hw⟩ := wp_rq hw
    refine G.sure ea3 ?_
    refine G_iload_n dX11_laysWay_11 rfl ?_
    obtain ⟨c4, hw⟩ := wp_ck hw
    obtain ⟨c5, hw⟩ := wp_ck hw
    refine G_iaload dX11_laysWay_12 c4 c5 ?_
    refine G_iconst (v := (5 : Int32)) dX11_laysWay_13 (by decide) ?_
    have hw := wp_if hw
    refine G_icmp_ge (tgt := 28) dX11_laysWay_14 rfl (fun c6 => ?_) (fun c6 => ?_)
    · have hw := hw.1 c6
      refine G.less [some (.ref l0), some (.int l1)] ⟨rfl, ⟨rfl, trivial⟩⟩ ?_
      exact f_X11_laysWay_28_ok hs hK_2 _ _ h Q hw
    · have hw := hw.2 c6
      refine G_aload_n dX11_laysWay_17 rfl ?_
      refine G_iload_n dX11_laysWay_18 rfl ?_
      refine G_aload_n dX11_laysWay_19 rfl ?_
      refine G_getR fl_X11_way w_1450 dX11_laysWay_20 c2 ?_
      obtain ⟨a7, ea7, hw⟩ := wp_rq hw
      refine G.sure ea7 ?_
      refine G_iload_n dX11_laysWay_23 rfl ?_
      obtain ⟨c8, hw⟩ := wp_ck hw
      obtain ⟨c9, hw⟩ := wp_ck hw
      refine G_iaload dX11_laysWay_24 c8 c9 ?_
      refine G_callV (As := [.int l1, .int (hI h a7 (ix l1))]) (s_X11_lights hs l0 l1 (hI h a7 (ix l1)) h _ (wp_cl hw)) ca_X11_lights w_1865 w_93 (ci := 10) rfl (by decide) w_1863 c2 (Nat.le_of_ble_eq_true rfl) (Nat.le_of_ble_eq_true rfl) rfl (Nat.le_of_ble_eq_true rfl) (Nat.le_of_ble_eq_true rfl) (Nat.le_of_ble_eq_true rfl) dX11_laysWay_25 rfl (fun v h11 hq => ?_)
      obtain ⟨rfl, hw⟩ := hq
      refine G.cse (cs' := (0, 0)) rfl ?_
      show GZ _ _ _ _ _ _ _ 28 _ [] _ _
      refine G.less [some (.ref l0), some (.int l1)] ⟨rfl, ⟨rfl, trivial⟩⟩ ?_
      exact f_X11_laysWay_28_ok hs hK_2 _ _ h11 Q hw
theorem f_X11_laysWay_2_ok {Γ : GX} (hs : SF Γ) {N : Nat} : ∀ (n : Nat) (l0 : Nat) (l1 : Int32) (h : PH) (Q : Unit → PH → Prop), wp (f_X11_laysWay_2 N n l0 l1 h) Q → G Γ yX11_laysWay cX11_laysWay 2 none (2, 0, 0) 2 [some (.ref l0), some (.int l1)] [] h (0, 0) (q_u Q)
  | 0, _, _, _, Q, hw => (wp_no hw).elim
  | n + 1, l0, l1, h, Q, hw => f_X11_laysWay_2_bok (N := N) hs (f_X11_laysWay_2_ok (N := N) hs n) l0 l1 h Q hw
set_option maxHeartbeats 4000000 in
set_option maxRecDepth 100000 in
theorem s_X11_laysWay {Γ : GX} (hs : SF Γ) {N : Nat} (l0 : Nat) (h : PH) (Q : Unit → PH → Prop) (hw : wp (f_X11_laysWay N l0 h) Q) : Spec Γ yX11_laysWay cX11_laysWay 2 none (2, 0, 0) [.ref l0] h (q_u Q) := by
  refine Spec.of (by decide) (Nat.le_of_ble_eq_true rfl) [some (.ref l0), none] rfl ?_
  unfold f_X11_laysWay at hw
  refine G_iconst (v := (0 : Int32)) dX11_laysWay_0 (by decide) ?_
  refine G_istore_n (lv' := [some (.ref l0), some (.int (0 : Int32))]) dX11_laysWay_1 (Nat.le_of_ble_eq_true rfl) rfl ?_
  refine G.less [some (.ref l0), some (.int (0 : Int32))] ⟨rfl, ⟨rfl, trivial⟩⟩ ?_
  exact f_X11_laysWay_2_ok hs N _ _ h Q hw
set_option maxHeartbeats 4000000 in
set_option maxRecDepth 100000 in
theorem f_X11_fewest_57_ok {Γ : GX} (hs : SF Γ) {N : Nat} {K_21 : Nat → Int32 → Int32 → Int32 → Int32 → Int32 → PH → Option (Int32 × PH)} (hK_21 : ∀ (l0 : Nat) (l1 : Int32) (l2 : Int32) (l3 : Int32) (l4 : Int32) (l5 : Int32) (h : PH) (Q : Int32 → PH → Prop), wp (K_21 l0 l1 l2 l3 l4 l5 h) Q → G Γ yX11_fewest cX11_fewest 7 (some .int) (9, 0, 0) 21 [some (.ref l0), some (.int l1), some (.int l2), some (.int l3), some (.int l4), some (.int l5), none] [] h (0, 0) (q_i Q)) (l0 : Nat) (l1 : Int32) (l2 : Int32) (l3 : Int32) (l4 : Int32) (h : PH) (Q : Int32 → PH → Prop) (hw : wp (f_X11_fewest_57 N K_21 l0 l1 l2 l3 l4 h) Q) : G Γ yX11_fewest cX11_fewest 7 (some .int) (9, 0, 0) 57 [some (.ref l0), some (.int l1), some (.int l2), some (.int l3), some (.int l4), none, none] [] h (0, 0) (q_i Q) := by
  unfold f_X11_fewest_57 at hw
  refine G_aload_n dX11_fewest_57 rfl ?_
  refine G_iload_n dX11_fewest_58 rfl ?_
  obtain ⟨c3, hw⟩ := wp_ck hw
  refine G_callV (As := [.int l3]) (s_X11_nextWay hs l0 l3 h _ (wp_cl hw)) ca_X11_nextWay w_1949 w_109 (ci := 10) rfl (by decide) w_1947 c3 (Nat.le_of_ble_eq_true rfl) (Nat.le_of_ble_eq_true rfl) rfl (Nat.le_of_ble_eq_true rfl) (Nat.le_of_ble_eq_true rfl) (Nat.le_of_ble_eq_true rfl) dX11_fewest_59 rfl (fun v h2 hq => ?_)
  obtain ⟨r1, rfl, hw⟩ := hq
  refine G.cse (cs' := (0, 0)) rfl ?_
  show GZ _ _ _ _ _ _ _ 62 _ (.int r1 :: []) _ _
  refine G_istore (lv' := [some (.ref l0), some (.int l1), some (.int l2), some (.int l3), some (.int l4), some (.int r1), none]) dX11_fewest_62 (Nat.le_of_ble_eq_true rfl) rfl ?_
  refine G_goto (tgt := 21) dX11_fewest_64 rfl ?_
  refine G.less [some (.ref l0), some (.int l1), some (.int l2), some (.int l3), some (.int l4), some (.int r1), none] ⟨rfl, ⟨rfl, ⟨rfl, ⟨rfl, ⟨rfl, ⟨rfl, trivial⟩⟩⟩⟩⟩⟩ ?_
  exact hK_21 _ _ _ _ _ _ h2 Q hw
set_option maxHeartbeats 4000000 in
set_option maxRecDepth 100000 in
theorem f_X11_fewest_44_ok {Γ : GX} (hs : SF Γ) {N : Nat} {K_21 : Nat → Int32 → Int32 → Int32 → Int32 → Int32 → PH → Option (Int32 × PH)} (hK_21 : ∀ (l0 : Nat) (l1 : Int32) (l2 : Int32) (l3 : Int32) (l4 : Int32) (l5 : Int32) (h : PH) (Q : Int32 → PH → Prop), wp (K_21 l0 l1 l2 l3 l4 l5 h) Q → G Γ yX11_fewest cX11_fewest 7 (some .int) (9, 0, 0) 21 [some (.ref l0), some (.int l1), some (.int l2), some (.int l3), some (.int l4), some (.int l5), none] [] h (0, 0) (q_i Q)) (l0 : Nat) (l1 : Int32) (l2 : Int32) (l3 : Int32) (l4 : Int32) (l6 : Int32) (h : PH) (Q : Int32 → PH → Prop) (hw : wp (f_X11_fewest_44 N K_21 l0 l1 l2 l3 l4 l6 h) Q) : G Γ yX11_fewest cX11_fewest 7 (some .int) (9, 0, 0) 44 [some (.ref l0), some (.int l1), some (.int l2), some (.int l3), some (.int l4), none, some (.int l6)] [] h (0, 0) (q_i Q) := by
  unfold f_X11_fewest_44 at hw
  refine G_aload_n dX11_fewest_44 rfl ?_
  refine G_iload_n dX11_fewest_45 rfl ?_
  obtain ⟨c3, hw⟩ := wp_ck hw
  refine G_callV (As := [.int l1]) (s_X11_signBy hs l0 l1 h _ (wp_cl hw)) ca_X11_signBy w_1929 w_104 (ci := 10) rfl (by decide) w_1927 c3 (Nat.le_of_ble_eq_true rfl) (Nat.le_of_ble_eq_true rfl) rfl (Nat.le_of_ble_eq_true rfl) (Nat.le_of_ble_eq_true rfl) (Nat.le_of_ble_eq_true rfl) dX11_fewest_46 rfl (fun v h2 hq => ?_)
  obtain ⟨r1, rfl, hw⟩ := hq
  refine G.cse (cs' := (0, 0)) rfl ?_
  show GZ _ _ _ _ _ _ _ 49 _ (.int r1 :: []) _ _
  refine G_iload_n dX11_fewest_49 rfl ?_
  have hw := wp_if hw
  refine G_icmp_ne (tgt := 57) dX11_fewest_50 rfl (fun c4 => ?_) (fun c4 => ?_)
  · have hw := hw.2 c4
    refine G.less [some (.ref l0), some (.int l1), some (.int l2), some (.int l3), some (.int l4), none, none] ⟨rfl, ⟨rfl, ⟨rfl, ⟨rfl, ⟨rfl, trivial⟩⟩⟩⟩⟩ ?_
    exact f_X11_fewest_57_ok hs hK_21 _ _ _ _ _ h2 Q hw
  · have hw := hw.1 c4
    refine G_iload dX11_fewest_53 rfl ?_
    refine G_istore (lv' := [some (.ref l0), some (.int l1), some (.int l2), some (.int l3), some (.int l6), none, some (.int l6)]) dX11_fewest_55 (Nat.le_of_ble_eq_true rfl) rfl ?_
    refine G.less [some (.ref l0), some (.int l1), some (.int l2), some (.int l3), some (.int l6), none, none] ⟨rfl, ⟨rfl, ⟨rfl, ⟨rfl, ⟨rfl, trivial⟩⟩⟩⟩⟩ ?_
    exact f_X11_fewest_57_ok hs hK_21 _ _ _ _ _ h2 Q hw
set_option maxHeartbeats 4000000 in
set_option maxRecDepth 100000 in
theorem f_X11_fewest_21_bok {Γ : GX} (hs : SF Γ) {N : Nat} {K_21 : Nat → Int32 → Int32 → Int32 → Int32 → Int32 → PH → Option (Int32 × PH)} (hK_21 : ∀ (l0 : Nat) (l1 : Int32) (l2 : Int32) (l3 : Int32) (l4 : Int32) (l5 : Int32) (h : PH) (Q : Int32 → PH → Prop), wp (K_21 l0 l1 l2 l3 l4 l5 h) Q → G Γ yX11_fewest cX11_fewest 7 (some .int) (9, 0, 0) 21 [some (.ref l0), some (.int l1), some (.int l2), some (.int l3), some (.int l4), some (.int l5), none] [] h (0, 0) (q_i Q)) (l0 : Nat) (l1 : Int32) (l2 : Int32) (l3 : Int32) (l4 : Int32) (l5 : Int32) (h : PH) (Q : Int32 → PH → Prop) (hw : wp (f_X11_fewest_21_b N K_21 l0 l1 l2 l3 l4 l5 h) Q) : G Γ yX11_fewest cX11_fewest 7 (some .int) (9, 0, 0) 21 [some (.ref l0), some (.int l1), some (.int l2), some (.int l3), some (.int l4), some (.int l5), none] [] h (0, 0) (q_i Q) := by
  unfold f_X11_fewest_21_b at hw
  refine G_iload dX11_fewest_21 rfl ?_
  have hw := wp_if hw
  refine G_if_eq (tgt := 67) dX11_fewest_23 rfl (fun c1 => ?_) (fun c1 => ?_)
  · have hw := hw.1 c1
    refine G_iload dX11_fewest_67 rfl ?_
    exact G_ireturn rfl dX11_fewest_69 ⟨_, rfl, wp_ret hw⟩
  · have hw := hw.2 c1
    refine G_aload_n dX11_fewest_26 rfl ?_
    obtain ⟨c4, hw⟩ := wp_ck hw
    refine G_callV (As := []) (s_X11_burnt hs l0 h _ (wp_cl hw)) ca_X11_burnt w_1925 w_103 (ci := 10) rfl (by decide) w_1923 c4 (Nat.le_of_ble_eq_true rfl) (Nat.le_of_ble_eq_true rfl) rfl (Nat.le_of_ble_eq_true rfl) (Nat.le_of_ble_eq_true rfl) (Nat.le_of_ble_eq_true rfl) dX11_fewest_27 rfl (fun v h3 hq => ?_)
    obtain ⟨r2, rfl, hw⟩ := hq
    refine G.cse (cs' := (0, 0)) rfl ?_
    show GZ _ _ _ _ _ _ _ 30 _ (.int r2 :: []) _ _
    refine G_istore (lv' := [some (.ref l0), some (.int l1), some (.int l2), some (.int l3), some (.int l4), some (.int l5), some (.int r2)]) dX11_fewest_30 (Nat.le_of_ble_eq_true rfl) rfl ?_
    refine G_iload dX11_fewest_32 rfl ?_
    have hw := wp_if hw
    refine G_if_lt (tgt := 44) dX11_fewest_34 rfl (fun c5 => ?_) (fun c5 => ?_)
    · have hw := hw.1 c5
      refine G.less [some (.ref l0), some (.int l1), some (.int l2), some (.int l3), some (.int l4), none, some (.int r2)] ⟨rfl, ⟨rfl, ⟨rfl, ⟨rfl, ⟨rfl, ⟨rfl, trivial⟩⟩⟩⟩⟩⟩ ?_
      exact f_X11_fewest_44_ok hs hK_21 _ _ _ _ _ _ h3 Q hw
    · have hw := hw.2 c5
      refine G_iload dX11_fewest_37 rfl ?_
      refine G_iload dX11_fewest_39 rfl ?_
      have hw := wp_if hw
      refine G_icmp_ge (tgt := 57) dX11_fewest_41 rfl (fun c6 => ?_) (fun c6 => ?_)
      · have hw := hw.1 c6
        refine G.less [some (.ref l0), some (.int l1), some (.int l2), some (.int l3), some (.int l4), none, none] ⟨rfl, ⟨rfl, ⟨rfl, ⟨rfl, ⟨rfl, trivial⟩⟩⟩⟩⟩ ?_
        exact f_X11_fewest_57_ok hs hK_21 _ _ _ _ _ h3 Q hw
      · have hw := hw.2 c6
        refine G.less [some (.ref l0), some (.int l1), some (.int l2), some (.int l3), some (.int l4), none, some (.int r2)] ⟨rfl, ⟨rfl, ⟨rfl, ⟨rfl, ⟨rfl, ⟨rfl, trivial⟩⟩⟩⟩⟩⟩ ?_
        exact f_X11_fewest_44_ok hs hK_21 _ _ _ _ _ _ h3 Q hw
theorem f_X11_fewest_21_ok {Γ : GX} (hs : SF Γ) {N : Nat} : ∀ (n : Nat) (l0 : Nat) (l1 : Int32) (l2 : Int32) (l3 : Int32) (l4 : Int32) (l5 : Int32) (h : PH) (Q : Int32 → PH → Prop), wp (f_X11_fewest_21 N n l0 l1 l2 l3 l4 l5 h) Q → G Γ yX11_fewest cX11_fewest 7 (some .int) (9, 0, 0) 21 [some (.ref l0), some (.int l1), some (.int l2), some (.int l3), some (.int l4), some (.int l5), none] [] h (0, 0) (q_i Q)
  | 0, _, _, _, _, _, _, _, Q, hw => (wp_no hw).elim
  | n + 1, l0, l1, l2, l3, l4, l5, h, Q, hw => f_X11_fewest_21_bok (N := N) hs (f_X11_fewest_21_ok (N := N) hs n) l0 l1 l2 l3 l4 l5 h Q hw
set_option maxHeartbeats 4000000 in
set_option maxRecDepth 100000 in
theorem s_X11_fewest {Γ : GX} (hs : SF Γ) {N : Nat} (l0 : Nat) (l1 : Int32) (l2 : Int32) (h : PH) (Q : Int32 → PH → Prop) (hw : wp (f_X11_fewest N l0 l1 l2 h) Q) : Spec Γ yX11_fewest cX11_fewest 7 (some .int) (9, 0, 0) [.ref l0, .int l1, .int l2] h (q_i Q) := by
  refine Spec.of (by decide) (Nat.le_of_ble_eq_true rfl) [some (.ref l0), some (.int l1), some (.int l2), none, none, none, none] rfl ?_
  unfold f_X11_fewest at hw
  refine G_aload_n dX11_fewest_0 rfl ?_
  refine G_aload_n dX11_fewest_1 rfl ?_
  refine G_iload_n dX11_fewest_2 rfl ?_
  obtain ⟨c3, hw⟩ := wp_ck hw
  refine G_callV (As := [.int l1]) (s_X11_housesOf hs l0 l1 h _ (wp_cl hw)) ca_X11_housesOf w_1842 w_89 (ci := 10) rfl (by decide) w_1840 c3 (Nat.le_of_ble_eq_true rfl) (Nat.le_of_ble_eq_true rfl) rfl (Nat.le_of_ble_eq_true rfl) (Nat.le_of_ble_eq_true rfl) (Nat.le_of_ble_eq_true rfl) dX11_fewest_3 rfl (fun v h2 hq => ?_)
  obtain ⟨r1, rfl, hw⟩ := hq
  refine G.cse (cs' := (0, 0)) rfl ?_
  show GZ _ _ _ _ _ _ _ 6 _ (.int r1 :: [.ref l0]) _ _
  obtain ⟨c6, hw⟩ := wp_ck hw
  refine G_callV (As := [.int r1]) (s_X11_withoutFire hs l0 r1 h2 _ (wp_cl hw)) ca_X11_withoutFire w_1909 w_99 (ci := 10) rfl (by decide) w_1907 c6 (Nat.le_of_ble_eq_true rfl) (Nat.le_of_ble_eq_true rfl) rfl (Nat.le_of_ble_eq_true rfl) (Nat.le_of_ble_eq_true rfl) (Nat.le_of_ble_eq_true rfl) dX11_fewest_6 rfl (fun v h5 hq => ?_)
  obtain ⟨r4, rfl, hw⟩ := hq
  refine G.cse (cs' := (0, 0)) rfl ?_
  show GZ _ _ _ _ _ _ _ 9 _ (.int r4 :: []) _ _
  refine G_istore_n (lv' := [some (.ref l0), some (.int l1), some (.int l2), some (.int r4), none, none, none]) dX11_fewest_9 (Nat.le_of_ble_eq_true rfl) rfl ?_
  refine G_iconst (v := (-1 : Int32)) dX11_fewest_10 (by decide) ?_
  refine G_istore (lv' := [some (.ref l0), some (.int l1), some (.int l2), some (.int r4), some (.int (-1 : Int32)), none, none]) dX11_fewest_11 (Nat.le_of_ble_eq_true rfl) rfl ?_
  refine G_aload_n dX11_fewest_13 rfl ?_
  refine G_iload_n dX11_fewest_14 rfl ?_
  obtain ⟨c9, hw⟩ := wp_ck hw
  refine G_callV (As := [.int r4]) (s_X11_firstWay hs l0 r4 h5 _ (wp_cl hw)) ca_X11_firstWay w_1913 w_100 (ci := 10) rfl (by decide) w_1911 c9 (Nat.le_of_ble_eq_true rfl) (Nat.le_of_ble_eq_true rfl) rfl (Nat.le_of_ble_eq_true rfl) (Nat.le_of_ble_eq_true rfl) (Nat.le_of_ble_eq_true rfl) dX11_fewest_15 rfl (fun v h8 hq => ?_)
  obtain ⟨rfl, hw⟩ := hq
  refine G.cse (cs' := (0, 0)) rfl ?_
  show GZ _ _ _ _ _ _ _ 18 _ [] _ _
  refine G_iconst (v := (1 : Int32)) dX11_fewest_18 (by decide) ?_
  refine G_istore (lv' := [some (.ref l0), some (.int l1), some (.int l2), some (.int r4), some (.int (-1 : Int32)), some (.int (1 : Int32)), none]) dX11_fewest_19 (Nat.le_of_ble_eq_true rfl) rfl ?_
  refine G.less [some (.ref l0), some (.int l1), some (.int l2), some (.int r4), some (.int (-1 : Int32)), some (.int (1 : Int32)), none] ⟨rfl, ⟨rfl, ⟨rfl, ⟨rfl, ⟨rfl, ⟨rfl, trivial⟩⟩⟩⟩⟩⟩ ?_
  exact f_X11_fewest_21_ok hs N _ _ _ _ _ _ h8 Q hw
set_option maxHeartbeats 4000000 in
set_option maxRecDepth 100000 in
theorem f_X11_spell_285_ok {Γ : GX} (hs : SF Γ) {N : Nat} {K_100 : Nat → Int32 → Int32 → Int32 → Int32 → Int32 → Int32 → Int32 → PH → Option (Int32 × PH)} (hK_100 : ∀ (l0 : Nat) (l1 : Int32) (l2 : Int32) (l3 : Int32) (l4 : Int32) (l5 : Int32) (l6 : Int32) (l7 : Int32) (h : PH) (Q : Int32 → PH → Prop), wp (K_100 l0 l1 l2 l3 l4 l5 l6 l7 h) Q → G Γ yX11_spell cX11_spell 11 (some .int) (10, 0, 0) 100 [some (.ref l0), some (.int l1), some (.int l2), some (.int l3), some (.int l4), some (.int l5), some (.int l6), some (.int l7), none, none, none] [] h (0, 0) (q_i Q)) (l0 : Nat) (l1 : Int32) (l2 : Int32) (l3 : Int32) (l4 : Int32) (l5 : Int32) (l6 : Int32) (h : PH) (Q : Int32 → PH → Prop) (hw : wp (f_X11_spell_285 N K_100 l0 l1 l2 l3 l4 l5 l6 h) Q) : G Γ yX11_spell cX11_spell 11 (some .int) (10, 0, 0) 285 [some (.ref l0), some (.int l1), some (.int l2), some (.int l3), some (.int l4), some (.int l5), some (.int l6), none, none, none, none] [] h (0, 0) (q_i Q) := by
  unfold f_X11_spell_285 at hw
  refine G_aload_n dX11_spell_285 rfl ?_
  refine G_iload dX11_spell_286 rfl ?_
  obtain ⟨c3, hw⟩ := wp_ck hw
  refine G_callV (As := [.int l5]) (s_X11_nextWay hs l0 l5 h _ (wp_cl hw)) ca_X11_nextWay w_1949 w_109 (ci := 10) rfl (by decide) w_1947 c3 (Nat.le_of_ble_eq_true rfl) (Nat.le_of_ble_eq_true rfl) rfl (Nat.le_of_ble_eq_true rfl) (Nat.le_of_ble_eq_true rfl) (Nat.le_of_ble_eq_true rfl) dX11_spell_288 rfl (fun v h2 hq => ?_)
  obtain ⟨r1, rfl, hw⟩ := hq
  refine G.cse (cs' := (0, 0)) rfl ?_
  show GZ _ _ _ _ _ _ _ 291 _ (.int r1 :: []) _ _
  refine G_istore (lv' := [some (.ref l0), some (.int l1), some (.int l2), some (.int l3), some (.int l4), some (.int l5), some (.int l6), some (.int r1), none, none, none]) dX11_spell_291 (Nat.le_of_ble_eq_true rfl) rfl ?_
  refine G_goto (tgt := 100) dX11_spell_293 rfl ?_
  refine G.less [some (.ref l0), some (.int l1), some (.int l2), some (.int l3), some (.int l4), some (.int l5), some (.int l6), some (.int r1), none, none, none] ⟨rfl, ⟨rfl, ⟨rfl, ⟨rfl, ⟨rfl, ⟨rfl, ⟨rfl, ⟨rfl, trivial⟩⟩⟩⟩⟩⟩⟩⟩ ?_
  exact hK_100 _ _ _ _ _ _ _ _ h2 Q hw
set_option maxHeartbeats 4000000 in
set_option maxRecDepth 100000 in
theorem f_X11_spell_259_bok {Γ : GX} (hs : SF Γ) {N : Nat} {K_100 : Nat → Int32 → Int32 → Int32 → Int32 → Int32 → Int32 → Int32 → PH → Option (Int32 × PH)} {K_259 : Nat → Int32 → Int32 → Int32 → Int32 → Int32 → Int32 → Int32 → PH → Option (Int32 × PH)} (hK_100 : ∀ (l0 : Nat) (l1 : Int32) (l2 : Int32) (l3 : Int32) (l4 : Int32) (l5 : Int32) (l6 : Int32) (l7 : Int32) (h : PH) (Q : Int32 → PH → Prop), wp (K_100 l0 l1 l2 l3 l4 l5 l6 l7 h) Q → G Γ yX11_spell cX11_spell 11 (some .int) (10, 0, 0) 100 [some (.ref l0), some (.int l1), some (.int l2), some (.int l3), some (.int l4), some (.int l5), some (.int l6), some (.int l7), none, none, none] [] h (0, 0) (q_i Q)) (hK_259 : ∀ (l0 : Nat) (l1 : Int32) (l2 : Int32) (l3 : Int32) (l4 : Int32) (l5 : Int32) (l6 : Int32) (l10 : Int32) (h : PH) (Q : Int32 → PH → Prop), wp (K_259 l0 l1 l2 l3 l4 l5 l6 l10 h) Q → G Γ yX11_spell cX11_spell 11 (some .int) (10, 0, 0) 259 [some (.ref l0), some (.int l1), some (.int l2), some (.int l3), some (.int l4), some (.int l5), some (.int l6), none, none, none, some (.int l10)] [] h (0, 0) (q_i Q)) (l0 : Nat) (l1 : Int32) (l2 : Int32) (l3 : Int32) (l4 : Int32) (l5 : Int32) (l6 : Int32) (l10 : Int32) (h : PH) (Q : Int32 → PH → Prop) (hw : wp (f_X11_spell_259_b N K_100 K_259 l0 l1 l2 l3 l4 l5 l6 l10 h) Q) : G Γ yX11_spell cX11_spell 11 (some .int) (10, 0, 0) 259 [some (.ref l0), some (.int l1), some (.int l2), some (.int l3), some (.int l4), some (.int l5), some (.int l6), none, none, none, some (.int l10)] [] h (0, 0) (q_i Q) := by
  unfold f_X11_spell_259_b at hw
  refine G_iload dX11_spell_259 rfl ?_
  refine G_iconst (v := (4 : Int32)) dX11_spell_261 (by decide) ?_
  have hw := wp_if hw
  refine G_icmp_ge (tgt := 285) dX11_spell_262 rfl (fun c1 => ?_) (fun c1 => ?_)
  · have hw := hw.1 c1
    refine G.less [some (.ref l0), some (.int l1), some (.int l2), some (.int l3), some (.int l4), some (.int l5), some (.int l6), none, none, none, none] ⟨rfl, ⟨rfl, ⟨rfl, ⟨rfl, ⟨rfl, ⟨rfl, ⟨rfl, trivial⟩⟩⟩⟩⟩⟩⟩ ?_
    exact f_X11_spell_285_ok hs hK_100 _ _ _ _ _ _ _ h Q hw
  · have hw := hw.2 c1
    refine G_aload_n dX11_spell_265 rfl ?_
    obtain ⟨c2, hw⟩ := wp_ck hw
    refine G_getR fl_X11_bestWay w_1452 dX11_spell_266 c2 ?_
    obtain ⟨a3, ea3, hw⟩ := wp_rq hw
    refine G.sure ea3 ?_
    refine G_iload dX11_spell_269 rfl ?_
    refine G_aload_n dX11_spell_271 rfl ?_
    refine G_getR fl_X11_way w_1450 dX11_spell_272 c2 ?_
    obtain ⟨a4, ea4, hw⟩ := wp_rq hw
    refine G.sure ea4 ?_
    refine G_iload dX11_spell_275 rfl ?_
    obtain ⟨c5, hw⟩ := wp_ck hw
    obtain ⟨c6, hw⟩ := wp_ck hw
    refine G_iaload dX11_spell_277 c5 c6 ?_
    obtain ⟨c7, hw⟩ := wp_ck hw
    obtain ⟨c8, hw⟩ := wp_ck hw
    refine G_iastore dX11_spell_278 c7 c8 ?_
    refine G.nmh fun h9 eh9 => ?_
    have hw := wp_bd hw h9 eh9
    obtain ⟨v10, ev10⟩ : ∃ z : Int32, z = l10 + (1 : Int32) := ⟨_, rfl⟩
    have hw := wp_bd hw v10 ev10
    refine G_iinc (v := v10) (lv' := [some (.ref l0), some (.int l1), some (.int l2), some (.int l3), some (.int l4), some (.int l5), some (.int l6), none, none, none, some (.int v10)]) dX11_spell_279 rfl (by rw [ev10]; rfl) (Nat.le_of_ble_eq_true rfl) rfl ?_
    refine G_goto (tgt := 259) dX11_spell_282 rfl ?_
    refine G.less [some (.ref l0), some (.int l1), some (.int l2), some (.int l3), some (.int l4), some (.int l5), some (.int l6), none, none, none, some (.int v10)] ⟨rfl, ⟨rfl, ⟨rfl, ⟨rfl, ⟨rfl, ⟨rfl, ⟨rfl, ⟨rfl, trivial⟩⟩⟩⟩⟩⟩⟩⟩ ?_
    exact hK_259 _ _ _ _ _ _ _ _ h9 Q hw
theorem f_X11_spell_259_ok {Γ : GX} (hs : SF Γ) {N : Nat} {K_100 : Nat → Int32 → Int32 → Int32 → Int32 → Int32 → Int32 → Int32 → PH → Option (Int32 × PH)} (hK_100 : ∀ (l0 : Nat) (l1 : Int32) (l2 : Int32) (l3 : Int32) (l4 : Int32) (l5 : Int32) (l6 : Int32) (l7 : Int32) (h : PH) (Q : Int32 → PH → Prop), wp (K_100 l0 l1 l2 l3 l4 l5 l6 l7 h) Q → G Γ yX11_spell cX11_spell 11 (some .int) (10, 0, 0) 100 [some (.ref l0), some (.int l1), some (.int l2), some (.int l3), some (.int l4), some (.int l5), some (.int l6), some (.int l7), none, none, none] [] h (0, 0) (q_i Q)) : ∀ (n : Nat) (l0 : Nat) (l1 : Int32) (l2 : Int32) (l3 : Int32) (l4 : Int32) (l5 : Int32) (l6 : Int32) (l10 : Int32) (h : PH) (Q : Int32 → PH → Prop), wp (f_X11_spell_259 N K_100 n l0 l1 l2 l3 l4 l5 l6 l10 h) Q → G Γ yX11_spell cX11_spell 11 (some .int) (10, 0, 0) 259 [some (.ref l0), some (.int l1), some (.int l2), some (.int l3), some (.int l4), some (.int l5), some (.int l6), none, none, none, some (.int l10)] [] h (0, 0) (q_i Q)
  | 0, _, _, _, _, _, _, _, _, _, Q, hw => (wp_no hw).elim
  | n + 1, l0, l1, l2, l3, l4, l5, l6, l10, h, Q, hw => f_X11_spell_259_bok (N := N) hs hK_100 (f_X11_spell_259_ok (N := N) hs hK_100 n) l0 l1 l2 l3 l4 l5 l6 l10 h Q hw
set_option maxHeartbeats 4000000 in
set_option maxRecDepth 100000 in
theorem f_X11_spell_249_ok {Γ : GX} (hs : SF Γ) {N : Nat} {K_100 : Nat → Int32 → Int32 → Int32 → Int32 → Int32 → Int32 → Int32 → PH → Option (Int32 × PH)} (hK_100 : ∀ (l0 : Nat) (l1 : Int32) (l2 : Int32) (l3 : Int32) (l4 : Int32) (l5 : Int32) (l6 : Int32) (l7 : Int32) (h : PH) (Q : Int32 → PH → Prop), wp (K_100 l0 l1 l2 l3 l4 l5 l6 l7 h) Q → G Γ yX11_spell cX11_spell 11 (some .int) (10, 0, 0) 100 [some (.ref l0), some (.int l1), some (.int l2), some (.int l3), some (.int l4), some (.int l5), some (.int l6), some (.int l7), none, none, none] [] h (0, 0) (q_i Q)) (l0 : Nat) (l1 : Int32) (l2 : Int32) (l3 : Int32) (l4 : Int32) (l5 : Int32) (l8 : Int32) (l9 : Int32) (h : PH) (Q : Int32 → PH → Prop) (hw : wp (f_X11_spell_249 N K_100 l0 l1 l2 l3 l4 l5 l8 l9 h) Q) : G Γ yX11_spell cX11_spell 11 (some .int) (10, 0, 0) 249 [some (.ref l0), some (.int l1), some (.int l2), some (.int l3), some (.int l4), some (.int l5), none, none, some (.int l8), some (.int l9), none] [] h (0, 0) (q_i Q) := by
  unfold f_X11_spell_249 at hw
  refine G_iload dX11_spell_249 rfl ?_
  refine G_iload dX11_spell_251 rfl ?_
  refine G_iadd dX11_spell_253 ?_
  refine G.topi fun v1 ev1 => ?_
  have hw := wp_bd hw v1 ev1
  refine G_istore (lv' := [some (.ref l0), some (.int l1), some (.int l2), some (.int l3), some (.int l4), some (.int l5), some (.int v1), none, some (.int l8), some (.int l9), none]) dX11_spell_254 (Nat.le_of_ble_eq_true rfl) rfl ?_
  refine G_iconst (v := (0 : Int32)) dX11_spell_256 (by decide) ?_
  refine G_istore (lv' := [some (.ref l0), some (.int l1), some (.int l2), some (.int l3), some (.int l4), some (.int l5), some (.int v1), none, some (.int l8), some (.int l9), some (.int (0 : Int32))]) dX11_spell_257 (Nat.le_of_ble_eq_true rfl) rfl ?_
  refine G.less [some (.ref l0), some (.int l1), some (.int l2), some (.int l3), some (.int l4), some (.int l5), some (.int v1), none, none, none, some (.int (0 : Int32))] ⟨rfl, ⟨rfl, ⟨rfl, ⟨rfl, ⟨rfl, ⟨rfl, ⟨rfl, ⟨rfl, trivial⟩⟩⟩⟩⟩⟩⟩⟩ ?_
  exact f_X11_spell_259_ok hs hK_100 N _ _ _ _ _ _ _ _ h Q hw
set_option maxHeartbeats 4000000 in
set_option maxRecDepth 100000 in
theorem f_X11_spell_229_ok {Γ : GX} (hs : SF Γ) {N : Nat} {K_100 : Nat → Int32 → Int32 → Int32 → Int32 → Int32 → Int32 → Int32 → PH → Option (Int32 × PH)} (hK_100 : ∀ (l0 : Nat) (l1 : Int32) (l2 : Int32) (l3 : Int32) (l4 : Int32) (l5 : Int32) (l6 : Int32) (l7 : Int32) (h : PH) (Q : Int32 → PH → Prop), wp (K_100 l0 l1 l2 l3 l4 l5 l6 l7 h) Q → G Γ yX11_spell cX11_spell 11 (some .int) (10, 0, 0) 100 [some (.ref l0), some (.int l1), some (.int l2), some (.int l3), some (.int l4), some (.int l5), some (.int l6), some (.int l7), none, none, none] [] h (0, 0) (q_i Q)) (l0 : Nat) (l1 : Int32) (l2 : Int32) (l3 : Int32) (l4 : Int32) (l5 : Int32) (l6 : Int32) (l8 : Int32) (l9 : Int32) (h : PH) (Q : Int32 → PH → Prop) (hw : wp (f_X11_spell_229 N K_100 l0 l1 l2 l3 l4 l5 l6 l8 l9 h) Q) : G Γ yX11_spell cX11_spell 11 (some .int) (10, 0, 0) 229 [some (.ref l0), some (.int l1), some (.int l2), some (.int l3), some (.int l4), some (.int l5), some (.int l6), none, some (.int l8), some (.int l9), none] [] h (0, 0) (q_i Q) := by
  unfold f_X11_spell_229 at hw
  refine G_iload dX11_spell_229 rfl ?_
  have hw := wp_if hw
  refine G_if_lt (tgt := 285) dX11_spell_231 rfl (fun c1 => ?_) (fun c1 => ?_)
  · have hw := hw.1 c1
    refine G.less [some (.ref l0), some (.int l1), some (.int l2), some (.int l3), some (.int l4), some (.int l5), some (.int l6), none, none, none, none] ⟨rfl, ⟨rfl, ⟨rfl, ⟨rfl, ⟨rfl, ⟨rfl, ⟨rfl, trivial⟩⟩⟩⟩⟩⟩⟩ ?_
    exact f_X11_spell_285_ok hs hK_100 _ _ _ _ _ _ _ h Q hw
  · have hw := hw.2 c1
    refine G_iload dX11_spell_234 rfl ?_
    have hw := wp_if hw
    refine G_if_lt (tgt := 249) dX11_spell_236 rfl (fun c2 => ?_) (fun c2 => ?_)
    · have hw := hw.1 c2
      refine G.less [some (.ref l0), some (.int l1), some (.int l2), some (.int l3), some (.int l4), some (.int l5), none, none, some (.int l8), some (.int l9), none] ⟨rfl, ⟨rfl, ⟨rfl, ⟨rfl, ⟨rfl, ⟨rfl, ⟨rfl, ⟨rfl, trivial⟩⟩⟩⟩⟩⟩⟩⟩ ?_
      exact f_X11_spell_249_ok hs hK_100 _ _ _ _ _ _ _ _ h Q hw
    · have hw := hw.2 c2
      refine G_iload dX11_spell_239 rfl ?_
      refine G_iload dX11_spell_241 rfl ?_
      refine G_iadd dX11_spell_243 ?_
      refine G_iload dX11_spell_244 rfl ?_
      have hw := wp_if hw
      refine G_icmp_ge (tgt := 285) dX11_spell_246 rfl (fun c3 => ?_) (fun c3 => ?_)
      · have hw := hw.1 c3
        refine G.less [some (.ref l0), some (.int l1), some (.int l2), some (.int l3), some (.int l4), some (.int l5), some (.int l6), none, none, none, none] ⟨rfl, ⟨rfl, ⟨rfl, ⟨rfl, ⟨rfl, ⟨rfl, ⟨rfl, trivial⟩⟩⟩⟩⟩⟩⟩ ?_
        exact f_X11_spell_285_ok hs hK_100 _ _ _ _ _ _ _ h Q hw
      · have hw := hw.2 c3
        refine G.less [some (.ref l0), some (.int l1), some (.int l2), some (.int l3), some (.int l4), some (.int l5), none, none, some (.int l8), some (.int l9), none] ⟨rfl, ⟨rfl, ⟨rfl, ⟨rfl, ⟨rfl, ⟨rfl, ⟨rfl, ⟨rfl, trivial⟩⟩⟩⟩⟩⟩⟩⟩ ?_
        exact f_X11_spell_249_ok hs hK_100 _ _ _ _ _ _ _ _ h Q hw
set_option maxHeartbeats 4000000 in
set_option maxRecDepth 100000 in
theorem f_X11_spell_203_bok {Γ : GX} (hs : SF Γ) {N : Nat} {K_100 : Nat → Int32 → Int32 → Int32 → Int32 → Int32 → Int32 → Int32 → PH → Option (Int32 × PH)} {K_203 : Nat → Int32 → Int32 → Int32 → Int32 → Int32 → Int32 → Int32 → Int32 → Int32 → PH → Option (Int32 × PH)} (hK_100 : ∀ (l0 : Nat) (l1 : Int32) (l2 : Int32) (l3 : Int32) (l4 : Int32) (l5 : Int32) (l6 : Int32) (l7 : Int32) (h : PH) (Q : Int32 → PH → Prop), wp (K_100 l0 l1 l2 l3 l4 l5 l6 l7 h) Q → G Γ yX11_spell cX11_spell 11 (some .int) (10, 0, 0) 100 [some (.ref l0), some (.int l1), some (.int l2), some (.int l3), some (.int l4), some (.int l5), some (.int l6), some (.int l7), none, none, none] [] h (0, 0) (q_i Q)) (hK_203 : ∀ (l0 : Nat) (l1 : Int32) (l2 : Int32) (l3 : Int32) (l4 : Int32) (l5 : Int32) (l6 : Int32) (l8 : Int32) (l9 : Int32) (l10 : Int32) (h : PH) (Q : Int32 → PH → Prop), wp (K_203 l0 l1 l2 l3 l4 l5 l6 l8 l9 l10 h) Q → G Γ yX11_spell cX11_spell 11 (some .int) (10, 0, 0) 203 [some (.ref l0), some (.int l1), some (.int l2), some (.int l3), some (.int l4), some (.int l5), some (.int l6), none, some (.int l8), some (.int l9), some (.int l10)] [] h (0, 0) (q_i Q)) (l0 : Nat) (l1 : Int32) (l2 : Int32) (l3 : Int32) (l4 : Int32) (l5 : Int32) (l6 : Int32) (l8 : Int32) (l9 : Int32) (l10 : Int32) (h : PH) (Q : Int32 → PH → Prop) (hw : wp (f_X11_spell_203_b N K_100 K_203 l0 l1 l2 l3 l4 l5 l6 l8 l9 l10 h) Q) : G Γ yX11_spell cX11_spell 11 (some .int) (10, 0, 0) 203 [some (.ref l0), some (.int l1), some (.int l2), some (.int l3), some (.int l4), some (.int l5), some (.int l6), none, some (.int l8), some (.int l9), some (.int l10)] [] h (0, 0) (q_i Q) := by
  unfold f_X11_spell_203_b at hw
  refine G_iload dX11_spell_203 rfl ?_
  refine G_iconst (v := (4 : Int32)) dX11_spell_205 (by decide) ?_
  have hw := wp_if hw
  refine G_icmp_ge (tgt := 229) dX11_spell_206 rfl (fun c1 => ?_) (fun c1 => ?_)
  · have hw := hw.1 c1
    refine G.less [some (.ref l0), some (.int l1), some (.int l2), some (.int l3), some (.int l4), some (.int l5), some (.int l6), none, some (.int l8), some (.int l9), none] ⟨rfl, ⟨rfl, ⟨rfl, ⟨rfl, ⟨rfl, ⟨rfl, ⟨rfl, ⟨rfl, ⟨rfl, trivial⟩⟩⟩⟩⟩⟩⟩⟩⟩ ?_
    exact f_X11_spell_229_ok hs hK_100 _ _ _ _ _ _ _ _ _ h Q hw
  · have hw := hw.2 c1
    refine G_aload_n dX11_spell_209 rfl ?_
    obtain ⟨c2, hw⟩ := wp_ck hw
    refine G_getR fl_X11_way w_1450 dX11_spell_210 c2 ?_
    obtain ⟨a3, ea3, hw⟩ := wp_rq hw
    refine G.sure ea3 ?_
    refine G_iload dX11_spell_213 rfl ?_
    refine G_aload_n dX11_spell_215 rfl ?_
    refine G_getR fl_X11_wayKept w_1451 dX11_spell_216 c2 ?_
    obtain ⟨a4, ea4, hw⟩ := wp_rq hw
    refine G.sure ea4 ?_
    refine G_iload dX11_spell_219 rfl ?_
    obtain ⟨c5, hw⟩ := wp_ck hw
    obtain ⟨c6, hw⟩ := wp_ck hw
    refine G_iaload dX11_spell_221 c5 c6 ?_
    obtain ⟨c7, hw⟩ := wp_ck hw
    obtain ⟨c8, hw⟩ := wp_ck hw
    refine G_iastore dX11_spell_222 c7 c8 ?_
    refine G.nmh fun h9 eh9 => ?_
    have hw := wp_bd hw h9 eh9
    obtain ⟨v10, ev10⟩ : ∃ z : Int32, z = l10 + (1 : Int32) := ⟨_, rfl⟩
    have hw := wp_bd hw v10 ev10
    refine G_iinc (v := v10) (lv' := [some (.ref l0), some (.int l1), some (.int l2), some (.int l3), some (.int l4), some (.int l5), some (.int l6), none, some (.int l8), some (.int l9), some (.int v10)]) dX11_spell_223 rfl (by rw [ev10]; rfl) (Nat.le_of_ble_eq_true rfl) rfl ?_
    refine G_goto (tgt := 203) dX11_spell_226 rfl ?_
    refine G.less [some (.ref l0), some (.int l1), some (.int l2), some (.int l3), some (.int l4), some (.int l5), some (.int l6), none, some (.int l8), some (.int l9), some (.int v10)] ⟨rfl, ⟨rfl, ⟨rfl, ⟨rfl, ⟨rfl, ⟨rfl, ⟨rfl, ⟨rfl, ⟨rfl, ⟨rfl, trivial⟩⟩⟩⟩⟩⟩⟩⟩⟩⟩ ?_
    exact hK_203 _ _ _ _ _ _ _ _ _ _ h9 Q hw
theorem f_X11_spell_203_ok {Γ : GX} (hs : SF Γ) {N : Nat} {K_100 : Nat → Int32 → Int32 → Int32 → Int32 → Int32 → Int32 → Int32 → PH → Option (Int32 × PH)} (hK_100 : ∀ (l0 : Nat) (l1 : Int32) (l2 : Int32) (l3 : Int32) (l4 : Int32) (l5 : Int32) (l6 : Int32) (l7 : Int32) (h : PH) (Q : Int32 → PH → Prop), wp (K_100 l0 l1 l2 l3 l4 l5 l6 l7 h) Q → G Γ yX11_spell cX11_spell 11 (some .int) (10, 0, 0) 100 [some (.ref l0), some (.int l1), some (.int l2), some (.int l3), some (.int l4), some (.int l5), some (.int l6), some (.int l7), none, none, none] [] h (0, 0) (q_i Q)) : ∀ (n : Nat) (l0 : Nat) (l1 : Int32) (l2 : Int32) (l3 : Int32) (l4 : Int32) (l5 : Int32) (l6 : Int32) (l8 : Int32) (l9 : Int32) (l10 : Int32) (h : PH) (Q : Int32 → PH → Prop), wp (f_X11_spell_203 N K_100 n l0 l1 l2 l3 l4 l5 l6 l8 l9 l10 h) Q → G Γ yX11_spell cX11_spell 11 (some .int) (10, 0, 0) 203 [some (.ref l0), some (.int l1), some (.int l2), some (.int l3), some (.int l4), some (.int l5), some (.int l6), none, some (.int l8), some (.int l9), some (.int l10)] [] h (0, 0) (q_i Q)
  | 0, _, _, _, _, _, _, _, _, _, _, _, Q, hw => (wp_no hw).elim
  | n + 1, l0, l1, l2, l3, l4, l5, l6, l8, l9, l10, h, Q, hw => f_X11_spell_203_bok (N := N) hs hK_100 (f_X11_spell_203_ok (N := N) hs hK_100 n) l0 l1 l2 l3 l4 l5 l6 l8 l9 l10 h Q hw
set_option maxHeartbeats 4000000 in
set_option maxRecDepth 100000 in
theorem f_X11_spell_135_bok {Γ : GX} (hs : SF Γ) {N : Nat} {K_100 : Nat → Int32 → Int32 → Int32 → Int32 → Int32 → Int32 → Int32 → PH → Option (Int32 × PH)} {K_135 : Nat → Int32 → Int32 → Int32 → Int32 → Int32 → Int32 → Int32 → Int32 → PH → Option (Int32 × PH)} (hK_100 : ∀ (l0 : Nat) (l1 : Int32) (l2 : Int32) (l3 : Int32) (l4 : Int32) (l5 : Int32) (l6 : Int32) (l7 : Int32) (h : PH) (Q : Int32 → PH → Prop), wp (K_100 l0 l1 l2 l3 l4 l5 l6 l7 h) Q → G Γ yX11_spell cX11_spell 11 (some .int) (10, 0, 0) 100 [some (.ref l0), some (.int l1), some (.int l2), some (.int l3), some (.int l4), some (.int l5), some (.int l6), some (.int l7), none, none, none] [] h (0, 0) (q_i Q)) (hK_135 : ∀ (l0 : Nat) (l1 : Int32) (l2 : Int32) (l3 : Int32) (l4 : Int32) (l5 : Int32) (l6 : Int32) (l8 : Int32) (l9 : Int32) (h : PH) (Q : Int32 → PH → Prop), wp (K_135 l0 l1 l2 l3 l4 l5 l6 l8 l9 h) Q → G Γ yX11_spell cX11_spell 11 (some .int) (10, 0, 0) 135 [some (.ref l0), some (.int l1), some (.int l2), some (.int l3), some (.int l4), some (.int l5), some (.int l6), none, some (.int l8), some (.int l9), none] [] h (0, 0) (q_i Q)) (l0 : Nat) (l1 : Int32) (l2 : Int32) (l3 : Int32) (l4 : Int32) (l5 : Int32) (l6 : Int32) (l8 : Int32) (l9 : Int32) (h : PH) (Q : Int32 → PH → Prop) (hw : wp (f_X11_spell_135_b N K_100 K_135 l0 l1 l2 l3 l4 l5 l6 l8 l9 h) Q) : G Γ yX11_spell cX11_spell 11 (some .int) (10, 0, 0) 135 [some (.ref l0), some (.int l1), some (.int l2), some (.int l3), some (.int l4), some (.int l5), some (.int l6), none, some (.int l8), some (.int l9), none] [] h (0, 0) (q_i Q) := by
  unfold f_X11_spell_135_b at hw
  refine G_iload dX11_spell_135 rfl ?_
  refine G_iconst (v := (4 : Int32)) dX11_spell_137 (by decide) ?_
  have hw := wp_if hw
  refine G_icmp_ge (tgt := 161) dX11_spell_138 rfl (fun c1 => ?_) (fun c1 => ?_)
  · have hw := hw.1 c1
    refine G_iconst (v := (0 : Int32)) dX11_spell_161 (by decide) ?_
    refine G_istore (lv' := [some (.ref l0), some (.int l1), some (.int l2), some (.int l3), some (.int l4), some (.int l5), some (.int l6), none, some (.int l8), some (.int (0 : Int32)), none]) dX11_spell_162 (Nat.le_of_ble_eq_true rfl) rfl ?_
    refine G_iload_n dX11_spell_164 rfl ?_
    refine G_bipush (v := (-2 : Int32)) dX11_spell_165 (by decide) ?_
    have hw := wp_if hw
    refine G_icmp_eq (tgt := 229) dX11_spell_167 rfl (fun c2 => ?_) (fun c2 => ?_)
    · have hw := hw.1 c2
      refine G.less [some (.ref l0), some (.int l1), some (.int l2), some (.int l3), some (.int l4), some (.int l5), some (.int l6), none, some (.int l8), some (.int (0 : Int32)), none] ⟨rfl, ⟨rfl, ⟨rfl, ⟨rfl, ⟨rfl, ⟨rfl, ⟨rfl, ⟨rfl, ⟨rfl, trivial⟩⟩⟩⟩⟩⟩⟩⟩⟩ ?_
      exact f_X11_spell_229_ok hs hK_100 _ _ _ _ _ _ _ _ _ h Q hw
    · have hw := hw.2 c2
      refine G_aload_n dX11_spell_170 rfl ?_
      obtain ⟨c5, hw⟩ := wp_ck hw
      refine G_callV (As := []) (s_X11_laysWay hs l0 h _ (wp_cl hw)) ca_X11_laysWay w_1941 w_107 (ci := 10) rfl (by decide) w_1939 c5 (Nat.le_of_ble_eq_true rfl) (Nat.le_of_ble_eq_true rfl) rfl (Nat.le_of_ble_eq_true rfl) (Nat.le_of_ble_eq_true rfl) (Nat.le_of_ble_eq_true rfl) dX11_spell_171 rfl (fun v h4 hq => ?_)
      obtain ⟨rfl, hw⟩ := hq
      refine G.cse (cs' := (0, 0)) rfl ?_
      show GZ _ _ _ _ _ _ _ 174 _ [] _ _
      refine G_aload_n dX11_spell_174 rfl ?_
      obtain ⟨c8, hw⟩ := wp_ck hw
      refine G_callV (As := []) (s_X11_passes hs l0 h4 _ (wp_cl hw)) ca_X11_passes w_1881 w_95 (ci := 10) rfl (by decide) w_1879 c8 (Nat.le_of_ble_eq_true rfl) (Nat.le_of_ble_eq_true rfl) rfl (Nat.le_of_ble_eq_true rfl) (Nat.le_of_ble_eq_true rfl) (Nat.le_of_ble_eq_true rfl) dX11_spell_175 rfl (fun v h7 hq => ?_)
      obtain ⟨r6, rfl, hw⟩ := hq
      refine G.cse (cs' := (0, 0)) rfl ?_
      show GZ _ _ _ _ _ _ _ 178 _ (.int r6 :: []) _ _
      refine G_pop dX11_spell_178 rfl ?_
      refine G_aload_n dX11_spell_179 rfl ?_
      refine G_iload_n dX11_spell_180 rfl ?_
      refine G_iload_n dX11_spell_181 rfl ?_
      obtain ⟨c11, hw⟩ := wp_ck hw
      refine G_callV (As := [.int l1, .int l3]) (s_X11_fewest hs l0 l1 l3 h7 _ (wp_cl hw)) ca_X11_fewest w_1945 w_108 (ci := 10) rfl (by decide) w_1943 c11 (Nat.le_of_ble_eq_true rfl) (Nat.le_of_ble_eq_true rfl) rfl (Nat.le_of_ble_eq_true rfl) (Nat.le_of_ble_eq_true rfl) (Nat.le_of_ble_eq_true rfl) dX11_spell_182 rfl (fun v h10 hq => ?_)
      obtain ⟨r9, rfl, hw⟩ := hq
      refine G.cse (cs' := (0, 0)) rfl ?_
      show GZ _ _ _ _ _ _ _ 185 _ (.int r9 :: []) _ _
      refine G_istore (lv' := [some (.ref l0), some (.int l1), some (.int l2), some (.int l3), some (.int l4), some (.int l5), some (.int l6), none, some (.int l8), some (.int r9), none]) dX11_spell_185 (Nat.le_of_ble_eq_true rfl) rfl ?_
      refine G_aload_n dX11_spell_187 rfl ?_
      obtain ⟨c12, hw⟩ := wp_ck hw
      refine G_getR fl_X11_spelt w_1453 dX11_spell_188 c12 ?_
      obtain ⟨a13, ea13, hw⟩ := wp_rq hw
      refine G.sure ea13 ?_
      refine G_iconst (v := (0 : Int32)) dX11_spell_191 (by decide) ?_
      refine G_aload_n dX11_spell_192 rfl ?_
      refine G_getR fl_X11_s w_1442 dX11_spell_193 c12 ?_
      obtain ⟨a14, ea14, hw⟩ := wp_rq hw
      refine G.sure ea14 ?_
      refine G_iconst (v := (0 : Int32)) dX11_spell_196 (by decide) ?_
      refine G_callS (As := [.ref a13, .int (0 : Int32), .ref a14, .int (0 : Int32)]) (s_X11_copies hs a13 (0 : Int32) a14 (0 : Int32) h10 _ (wp_cl hw)) ca_X11_copies w_1861 w_1860 (Nat.le_of_ble_eq_true rfl) (Nat.le_of_ble_eq_true rfl) rfl (Nat.le_of_ble_eq_true rfl) (Nat.le_of_ble_eq_true rfl) (Nat.le_of_ble_eq_true rfl) dX11_spell_197 rfl (fun v h16 hq => ?_)
      obtain ⟨rfl, hw⟩ := hq
      refine G.cse (cs' := (0, 0)) rfl ?_
      show GZ _ _ _ _ _ _ _ 200 _ [] _ _
      refine G_iconst (v := (0 : Int32)) dX11_spell_200 (by decide) ?_
      refine G_istore (lv' := [some (.ref l0), some (.int l1), some (.int l2), some (.int l3), some (.int l4), some (.int l5), some (.int l6), none, some (.int l8), some (.int r9), some (.int (0 : Int32))]) dX11_spell_201 (Nat.le_of_ble_eq_true rfl) rfl ?_
      refine G.less [some (.ref l0), some (.int l1), some (.int l2), some (.int l3), some (.int l4), some (.int l5), some (.int l6), none, some (.int l8), some (.int r9), some (.int (0 : Int32))] ⟨rfl, ⟨rfl, ⟨rfl, ⟨rfl, ⟨rfl, ⟨rfl, ⟨rfl, ⟨rfl, ⟨rfl, ⟨rfl, trivial⟩⟩⟩⟩⟩⟩⟩⟩⟩⟩ ?_
      exact f_X11_spell_203_ok hs hK_100 N _ _ _ _ _ _ _ _ _ _ h16 Q hw
  · have hw := hw.2 c1
    refine G_aload_n dX11_spell_141 rfl ?_
    obtain ⟨c17, hw⟩ := wp_ck hw
    refine G_getR fl_X11_wayKept w_1451 dX11_spell_142 c17 ?_
    obtain ⟨a18, ea18, hw⟩ := wp_rq hw
    refine G.sure ea18 ?_
    refine G_iload dX11_spell_145 rfl ?_
    refine G_aload_n dX11_spell_147 rfl ?_
    refine G_getR fl_X11_way w_1450 dX11_spell_148 c17 ?_
    obtain ⟨a19, ea19, hw⟩ := wp_rq hw
    refine G.sure ea19 ?_
    refine G_iload dX11_spell_151 rfl ?_
    obtain ⟨c20, hw⟩ := wp_ck hw
    obtain ⟨c21, hw⟩ := wp_ck hw
    refine G_iaload dX11_spell_153 c20 c21 ?_
    obtain ⟨c22, hw⟩ := wp_ck hw
    obtain ⟨c23, hw⟩ := wp_ck hw
    refine G_iastore dX11_spell_154 c22 c23 ?_
    refine G.nmh fun h24 eh24 => ?_
    have hw := wp_bd hw h24 eh24
    obtain ⟨v25, ev25⟩ : ∃ z : Int32, z = l9 + (1 : Int32) := ⟨_, rfl⟩
    have hw := wp_bd hw v25 ev25
    refine G_iinc (v := v25) (lv' := [some (.ref l0), some (.int l1), some (.int l2), some (.int l3), some (.int l4), some (.int l5), some (.int l6), none, some (.int l8), some (.int v25), none]) dX11_spell_155 rfl (by rw [ev25]; rfl) (Nat.le_of_ble_eq_true rfl) rfl ?_
    refine G_goto (tgt := 135) dX11_spell_158 rfl ?_
    refine G.less [some (.ref l0), some (.int l1), some (.int l2), some (.int l3), some (.int l4), some (.int l5), some (.int l6), none, some (.int l8), some (.int v25), none] ⟨rfl, ⟨rfl, ⟨rfl, ⟨rfl, ⟨rfl, ⟨rfl, ⟨rfl, ⟨rfl, ⟨rfl, trivial⟩⟩⟩⟩⟩⟩⟩⟩⟩ ?_
    exact hK_135 _ _ _ _ _ _ _ _ _ h24 Q hw
theorem f_X11_spell_135_ok {Γ : GX} (hs : SF Γ) {N : Nat} {K_100 : Nat → Int32 → Int32 → Int32 → Int32 → Int32 → Int32 → Int32 → PH → Option (Int32 × PH)} (hK_100 : ∀ (l0 : Nat) (l1 : Int32) (l2 : Int32) (l3 : Int32) (l4 : Int32) (l5 : Int32) (l6 : Int32) (l7 : Int32) (h : PH) (Q : Int32 → PH → Prop), wp (K_100 l0 l1 l2 l3 l4 l5 l6 l7 h) Q → G Γ yX11_spell cX11_spell 11 (some .int) (10, 0, 0) 100 [some (.ref l0), some (.int l1), some (.int l2), some (.int l3), some (.int l4), some (.int l5), some (.int l6), some (.int l7), none, none, none] [] h (0, 0) (q_i Q)) : ∀ (n : Nat) (l0 : Nat) (l1 : Int32) (l2 : Int32) (l3 : Int32) (l4 : Int32) (l5 : Int32) (l6 : Int32) (l8 : Int32) (l9 : Int32) (h : PH) (Q : Int32 → PH → Prop), wp (f_X11_spell_135 N K_100 n l0 l1 l2 l3 l4 l5 l6 l8 l9 h) Q → G Γ yX11_spell cX11_spell 11 (some .int) (10, 0, 0) 135 [some (.ref l0), some (.int l1), some (.int l2), some (.int l3), some (.int l4), some (.int l5), some (.int l6), none, some (.int l8), some (.int l9), none] [] h (0, 0) (q_i Q)
  | 0, _, _, _, _, _, _, _, _, _, _, Q, hw => (wp_no hw).elim
  | n + 1, l0, l1, l2, l3, l4, l5, l6, l8, l9, h, Q, hw => f_X11_spell_135_bok (N := N) hs hK_100 (f_X11_spell_135_ok (N := N) hs hK_100 n) l0 l1 l2 l3 l4 l5 l6 l8 l9 h Q hw
set_option maxHeartbeats 4000000 in
set_option maxRecDepth 100000 in
theorem f_X11_spell_123_ok {Γ : GX} (hs : SF Γ) {N : Nat} {K_100 : Nat → Int32 → Int32 → Int32 → Int32 → Int32 → Int32 → Int32 → PH → Option (Int32 × PH)} (hK_100 : ∀ (l0 : Nat) (l1 : Int32) (l2 : Int32) (l3 : Int32) (l4 : Int32) (l5 : Int32) (l6 : Int32) (l7 : Int32) (h : PH) (Q : Int32 → PH → Prop), wp (K_100 l0 l1 l2 l3 l4 l5 l6 l7 h) Q → G Γ yX11_spell cX11_spell 11 (some .int) (10, 0, 0) 100 [some (.ref l0), some (.int l1), some (.int l2), some (.int l3), some (.int l4), some (.int l5), some (.int l6), some (.int l7), none, none, none] [] h (0, 0) (q_i Q)) (l0 : Nat) (l1 : Int32) (l2 : Int32) (l3 : Int32) (l4 : Int32) (l5 : Int32) (l6 : Int32) (l8 : Int32) (h : PH) (Q : Int32 → PH → Prop) (hw : wp (f_X11_spell_123 N K_100 l0 l1 l2 l3 l4 l5 l6 l8 h) Q) : G Γ yX11_spell cX11_spell 11 (some .int) (10, 0, 0) 123 [some (.ref l0), some (.int l1), some (.int l2), some (.int l3), some (.int l4), some (.int l5), some (.int l6), none, some (.int l8), none, none] [] h (0, 0) (q_i Q) := by
  unfold f_X11_spell_123 at hw
  refine G_aload_n dX11_spell_123 rfl ?_
  refine G_iload_n dX11_spell_124 rfl ?_
  obtain ⟨c3, hw⟩ := wp_ck hw
  refine G_callV (As := [.int l1]) (s_X11_signBy hs l0 l1 h _ (wp_cl hw)) ca_X11_signBy w_1929 w_104 (ci := 10) rfl (by decide) w_1927 c3 (Nat.le_of_ble_eq_true rfl) (Nat.le_of_ble_eq_true rfl) rfl (Nat.le_of_ble_eq_true rfl) (Nat.le_of_ble_eq_true rfl) (Nat.le_of_ble_eq_true rfl) dX11_spell_125 rfl (fun v h2 hq => ?_)
  obtain ⟨r1, rfl, hw⟩ := hq
  refine G.cse (cs' := (0, 0)) rfl ?_
  show GZ _ _ _ _ _ _ _ 128 _ (.int r1 :: []) _ _
  refine G_iload_n dX11_spell_128 rfl ?_
  have hw := wp_if hw
  refine G_icmp_ne (tgt := 285) dX11_spell_129 rfl (fun c4 => ?_) (fun c4 => ?_)
  · have hw := hw.2 c4
    refine G.less [some (.ref l0), some (.int l1), some (.int l2), some (.int l3), some (.int l4), some (.int l5), some (.int l6), none, none, none, none] ⟨rfl, ⟨rfl, ⟨rfl, ⟨rfl, ⟨rfl, ⟨rfl, ⟨rfl, trivial⟩⟩⟩⟩⟩⟩⟩ ?_
    exact f_X11_spell_285_ok hs hK_100 _ _ _ _ _ _ _ h2 Q hw
  · have hw := hw.1 c4
    refine G_iconst (v := (0 : Int32)) dX11_spell_132 (by decide) ?_
    refine G_istore (lv' := [some (.ref l0), some (.int l1), some (.int l2), some (.int l3), some (.int l4), some (.int l5), some (.int l6), none, some (.int l8), some (.int (0 : Int32)), none]) dX11_spell_133 (Nat.le_of_ble_eq_true rfl) rfl ?_
    refine G.less [some (.ref l0), some (.int l1), some (.int l2), some (.int l3), some (.int l4), some (.int l5), some (.int l6), none, some (.int l8), some (.int (0 : Int32)), none] ⟨rfl, ⟨rfl, ⟨rfl, ⟨rfl, ⟨rfl, ⟨rfl, ⟨rfl, ⟨rfl, ⟨rfl, trivial⟩⟩⟩⟩⟩⟩⟩⟩⟩ ?_
    exact f_X11_spell_135_ok hs hK_100 N _ _ _ _ _ _ _ _ _ h2 Q hw
set_option maxHeartbeats 4000000 in
set_option maxRecDepth 100000 in
theorem f_X11_spell_100_bok {Γ : GX} (hs : SF Γ) {N : Nat} {K_100 : Nat → Int32 → Int32 → Int32 → Int32 → Int32 → Int32 → Int32 → PH → Option (Int32 × PH)} (hK_100 : ∀ (l0 : Nat) (l1 : Int32) (l2 : Int32) (l3 : Int32) (l4 : Int32) (l5 : Int32) (l6 : Int32) (l7 : Int32) (h : PH) (Q : Int32 → PH → Prop), wp (K_100 l0 l1 l2 l3 l4 l5 l6 l7 h) Q → G Γ yX11_spell cX11_spell 11 (some .int) (10, 0, 0) 100 [some (.ref l0), some (.int l1), some (.int l2), some (.int l3), some (.int l4), some (.int l5), some (.int l6), some (.int l7), none, none, none] [] h (0, 0) (q_i Q)) (l0 : Nat) (l1 : Int32) (l2 : Int32) (l3 : Int32) (l4 : Int32) (l5 : Int32) (l6 : Int32) (l7 : Int32) (h : PH) (Q : Int32 → PH → Prop) (hw : wp (f_X11_spell_100_b N K_100 l0 l1 l2 l3 l4 l5 l6 l7 h) Q) : G Γ yX11_spell cX11_spell 11 (some .int) (10, 0, 0) 100 [some (.ref l0), some (.int l1), some (.int l2), some (.int l3), some (.int l4), some (.int l5), some (.int l6), some (.int l7), none, none, none] [] h (0, 0) (q_i Q) := by
  unfold f_X11_spell_100_b at hw
  refine G_iload dX11_spell_100 rfl ?_
  have hw := wp_if hw
  refine G_if_eq (tgt := 296) dX11_spell_102 rfl (fun c1 => ?_) (fun c1 => ?_)
  · have hw := hw.1 c1
    refine G_iload dX11_spell_296 rfl ?_
    have hw := wp_if hw
    refine G_if_ge (tgt := 304) dX11_spell_298 rfl (fun c2 => ?_) (fun c2 => ?_)
    · have hw := hw.1 c2
      refine G_iload dX11_spell_304 rfl ?_
      refine G_iconst (v := (-1 : Int32)) dX11_spell_306 (by decide) ?_
      have hw := wp_if hw
      refine G_icmp_ne (tgt := 315) dX11_spell_307 rfl (fun c3 => ?_) (fun c3 => ?_)
      · have hw := hw.2 c3
        refine G_aload_n dX11_spell_315 rfl ?_
        obtain ⟨c4, hw⟩ := wp_ck hw
        refine G_getR fl_X11_bestWay w_1452 dX11_spell_316 c4 ?_
        obtain ⟨a5, ea5, hw⟩ := wp_rq hw
        refine G.sure ea5 ?_
        refine G_iload dX11_spell_319 rfl ?_
        obtain ⟨c6, hw⟩ := wp_ck hw
        obtain ⟨c7, hw⟩ := wp_ck hw
        refine G_iaload dX11_spell_321 c6 c7 ?_
        refine G_iconst (v := (5 : Int32)) dX11_spell_322 (by decide) ?_
        have hw := wp_if hw
        refine G_icmp_ne (tgt := 330) dX11_spell_323 rfl (fun c8 => ?_) (fun c8 => ?_)
        · have hw := hw.2 c8
          refine G_aload_n dX11_spell_330 rfl ?_
          refine G_getR fl_X11_bestWay w_1452 dX11_spell_331 c4 ?_
          obtain ⟨a9, ea9, hw⟩ := wp_rq hw
          refine G.sure ea9 ?_
          refine G_iload dX11_spell_334 rfl ?_
          obtain ⟨c10, hw⟩ := wp_ck hw
          obtain ⟨c11, hw⟩ := wp_ck hw
          refine G_iaload dX11_spell_336 c10 c11 ?_
          exact G_ireturn rfl dX11_spell_337 ⟨_, rfl, wp_ret hw⟩
        · have hw := hw.1 c8
          refine G_iconst (v := (-1 : Int32)) dX11_spell_326 (by decide) ?_
          refine G_goto (tgt := 337) dX11_spell_327 rfl ?_
          exact G_ireturn rfl dX11_spell_337 ⟨_, rfl, wp_ret hw⟩
      · have hw := hw.1 c3
        refine G_iload dX11_spell_310 rfl ?_
        refine G_goto (tgt := 337) dX11_spell_312 rfl ?_
        exact G_ireturn rfl dX11_spell_337 ⟨_, rfl, wp_ret hw⟩
    · have hw := hw.2 c2
      refine G_bipush (v := (-2 : Int32)) dX11_spell_301 (by decide) ?_
      exact G_ireturn rfl dX11_spell_303 ⟨_, rfl, wp_ret hw⟩
  · have hw := hw.2 c1
    refine G_aload_n dX11_spell_105 rfl ?_
    obtain ⟨c14, hw⟩ := wp_ck hw
    refine G_callV (As := []) (s_X11_burnt hs l0 h _ (wp_cl hw)) ca_X11_burnt w_1925 w_103 (ci := 10) rfl (by decide) w_1923 c14 (Nat.le_of_ble_eq_true rfl) (Nat.le_of_ble_eq_true rfl) rfl (Nat.le_of_ble_eq_true rfl) (Nat.le_of_ble_eq_true rfl) (Nat.le_of_ble_eq_true rfl) dX11_spell_106 rfl (fun v h13 hq => ?_)
    obtain ⟨r12, rfl, hw⟩ := hq
    refine G.cse (cs' := (0, 0)) rfl ?_
    show GZ _ _ _ _ _ _ _ 109 _ (.int r12 :: []) _ _
    refine G_istore (lv' := [some (.ref l0), some (.int l1), some (.int l2), some (.int l3), some (.int l4), some (.int l5), some (.int l6), some (.int l7), some (.int r12), none, none]) dX11_spell_109 (Nat.le_of_ble_eq_true rfl) rfl ?_
    refine G_iload dX11_spell_111 rfl ?_
    have hw := wp_if hw
    refine G_if_lt (tgt := 123) dX11_spell_113 rfl (fun c15 => ?_) (fun c15 => ?_)
    · have hw := hw.1 c15
      refine G.less [some (.ref l0), some (.int l1), some (.int l2), some (.int l3), some (.int l4), some (.int l5), some (.int l6), none, some (.int r12), none, none] ⟨rfl, ⟨rfl, ⟨rfl, ⟨rfl, ⟨rfl, ⟨rfl, ⟨rfl, ⟨rfl, trivial⟩⟩⟩⟩⟩⟩⟩⟩ ?_
      exact f_X11_spell_123_ok hs hK_100 _ _ _ _ _ _ _ _ h13 Q hw
    · have hw := hw.2 c15
      refine G_iload dX11_spell_116 rfl ?_
      refine G_iload dX11_spell_118 rfl ?_
      have hw := wp_if hw
      refine G_icmp_ge (tgt := 285) dX11_spell_120 rfl (fun c16 => ?_) (fun c16 => ?_)
      · have hw := hw.1 c16
        refine G.less [some (.ref l0), some (.int l1), some (.int l2), some (.int l3), some (.int l4), some (.int l5), some (.int l6), none, none, none, none] ⟨rfl, ⟨rfl, ⟨rfl, ⟨rfl, ⟨rfl, ⟨rfl, ⟨rfl, trivial⟩⟩⟩⟩⟩⟩⟩ ?_
        exact f_X11_spell_285_ok hs hK_100 _ _ _ _ _ _ _ h13 Q hw
      · have hw := hw.2 c16
        refine G.less [some (.ref l0), some (.int l1), some (.int l2), some (.int l3), some (.int l4), some (.int l5), some (.int l6), none, some (.int r12), none, none] ⟨rfl, ⟨rfl, ⟨rfl, ⟨rfl, ⟨rfl, ⟨rfl, ⟨rfl, ⟨rfl, trivial⟩⟩⟩⟩⟩⟩⟩⟩ ?_
        exact f_X11_spell_123_ok hs hK_100 _ _ _ _ _ _ _ _ h13 Q hw
theorem f_X11_spell_100_ok {Γ : GX} (hs : SF Γ) {N : Nat} : ∀ (n : Nat) (l0 : Nat) (l1 : Int32) (l2 : Int32) (l3 : Int32) (l4 : Int32) (l5 : Int32) (l6 : Int32) (l7 : Int32) (h : PH) (Q : Int32 → PH → Prop), wp (f_X11_spell_100 N n l0 l1 l2 l3 l4 l5 l6 l7 h) Q → G Γ yX11_spell cX11_spell 11 (some .int) (10, 0, 0) 100 [some (.ref l0), some (.int l1), some (.int l2), some (.int l3), some (.int l4), some (.int l5), some (.int l6), some (.int l7), none, none, none] [] h (0, 0) (q_i Q)
  | 0, _, _, _, _, _, _, _, _, _, Q, hw => (wp_no hw).elim
  | n + 1, l0, l1, l2, l3, l4, l5, l6, l7, h, Q, hw => f_X11_spell_100_bok (N := N) hs (f_X11_spell_100_ok (N := N) hs n) l0 l1 l2 l3 l4 l5 l6 l7 h Q hw
set_option maxHeartbeats 4000000 in
set_option maxRecDepth 100000 in
theorem f_X11_spell_64_ok {Γ : GX} (hs : SF Γ) {N : Nat} (l0 : Nat) (l1 : Int32) (l2 : Int32) (l3 : Int32) (l4 : Int32) (h : PH) (Q : Int32 → PH → Prop) (hw : wp (f_X11_spell_64 N l0 l1 l2 l3 l4 h) Q) : G Γ yX11_spell cX11_spell 11 (some .int) (10, 0, 0) 64 [some (.ref l0), some (.int l1), some (.int l2), some (.int l3), some (.int l4), none, none, none, none, none, none] [] h (0, 0) (q_i Q) := by
  unfold f_X11_spell_64 at hw
  refine G_aload_n dX11_spell_64 rfl ?_
  refine G_aload_n dX11_spell_65 rfl ?_
  refine G_iload_n dX11_spell_66 rfl ?_
  obtain ⟨c3, hw⟩ := wp_ck hw
  refine G_callV (As := [.int l1]) (s_X11_housesOf hs l0 l1 h _ (wp_cl hw)) ca_X11_housesOf w_1842 w_89 (ci := 10) rfl (by decide) w_1840 c3 (Nat.le_of_ble_eq_true rfl) (Nat.le_of_ble_eq_true rfl) rfl (Nat.le_of_ble_eq_true rfl) (Nat.le_of_ble_eq_true rfl) (Nat.le_of_ble_eq_true rfl) dX11_spell_67 rfl (fun v h2 hq => ?_)
  obtain ⟨r1, rfl, hw⟩ := hq
  refine G.cse (cs' := (0, 0)) rfl ?_
  show GZ _ _ _ _ _ _ _ 70 _ (.int r1 :: [.ref l0]) _ _
  obtain ⟨c6, hw⟩ := wp_ck hw
  refine G_callV (As := [.int r1]) (s_X11_withoutFire hs l0 r1 h2 _ (wp_cl hw)) ca_X11_withoutFire w_1909 w_99 (ci := 10) rfl (by decide) w_1907 c6 (Nat.le_of_ble_eq_true rfl) (Nat.le_of_ble_eq_true rfl) rfl (Nat.le_of_ble_eq_true rfl) (Nat.le_of_ble_eq_true rfl) (Nat.le_of_ble_eq_true rfl) dX11_spell_70 rfl (fun v h5 hq => ?_)
  obtain ⟨r4, rfl, hw⟩ := hq
  refine G.cse (cs' := (0, 0)) rfl ?_
  show GZ _ _ _ _ _ _ _ 73 _ (.int r4 :: []) _ _
  refine G_istore (lv' := [some (.ref l0), some (.int l1), some (.int l2), some (.int l3), some (.int l4), some (.int r4), none, none, none, none, none]) dX11_spell_73 (Nat.le_of_ble_eq_true rfl) rfl ?_
  refine G_iconst (v := (-1 : Int32)) dX11_spell_75 (by decide) ?_
  refine G_istore (lv' := [some (.ref l0), some (.int l1), some (.int l2), some (.int l3), some (.int l4), some (.int r4), some (.int (-1 : Int32)), none, none, none, none]) dX11_spell_76 (Nat.le_of_ble_eq_true rfl) rfl ?_
  refine G_aload_n dX11_spell_78 rfl ?_
  obtain ⟨c7, hw⟩ := wp_ck hw
  refine G_getR fl_X11_s w_1442 dX11_spell_79 c7 ?_
  obtain ⟨a8, ea8, hw⟩ := wp_rq hw
  refine G.sure ea8 ?_
  refine G_iconst (v := (0 : Int32)) dX11_spell_82 (by decide) ?_
  refine G_aload_n dX11_spell_83 rfl ?_
  refine G_getR fl_X11_spelt w_1453 dX11_spell_84 c7 ?_
  obtain ⟨a9, ea9, hw⟩ := wp_rq hw
  refine G.sure ea9 ?_
  refine G_iconst (v := (0 : Int32)) dX11_spell_87 (by decide) ?_
  refine G_callS (As := [.ref a8, .int (0 : Int32), .ref a9, .int (0 : Int32)]) (s_X11_copies hs a8 (0 : Int32) a9 (0 : Int32) h5 _ (wp_cl hw)) ca_X11_copies w_1861 w_1860 (Nat.le_of_ble_eq_true rfl) (Nat.le_of_ble_eq_true rfl) rfl (Nat.le_of_ble_eq_true rfl) (Nat.le_of_ble_eq_true rfl) (Nat.le_of_ble_eq_true rfl) dX11_spell_88 rfl (fun v h11 hq => ?_)
  obtain ⟨rfl, hw⟩ := hq
  refine G.cse (cs' := (0, 0)) rfl ?_
  show GZ _ _ _ _ _ _ _ 91 _ [] _ _
  refine G_aload_n dX11_spell_91 rfl ?_
  refine G_iload dX11_spell_92 rfl ?_
  obtain ⟨c14, hw⟩ := wp_ck hw
  refine G_callV (As := [.int r4]) (s_X11_firstWay hs l0 r4 h11 _ (wp_cl hw)) ca_X11_firstWay w_1913 w_100 (ci := 10) rfl (by decide) w_1911 c14 (Nat.le_of_ble_eq_true rfl) (Nat.le_of_ble_eq_true rfl) rfl (Nat.le_of_ble_eq_true rfl) (Nat.le_of_ble_eq_true rfl) (Nat.le_of_ble_eq_true rfl) dX11_spell_94 rfl (fun v h13 hq => ?_)
  obtain ⟨rfl, hw⟩ := hq
  refine G.cse (cs' := (0, 0)) rfl ?_
  show GZ _ _ _ _ _ _ _ 97 _ [] _ _
  refine G_iconst (v := (1 : Int32)) dX11_spell_97 (by decide) ?_
  refine G_istore (lv' := [some (.ref l0), some (.int l1), some (.int l2), some (.int l3), some (.int l4), some (.int r4), some (.int (-1 : Int32)), some (.int (1 : Int32)), none, none, none]) dX11_spell_98 (Nat.le_of_ble_eq_true rfl) rfl ?_
  refine G.less [some (.ref l0), some (.int l1), some (.int l2), some (.int l3), some (.int l4), some (.int r4), some (.int (-1 : Int32)), some (.int (1 : Int32)), none, none, none] ⟨rfl, ⟨rfl, ⟨rfl, ⟨rfl, ⟨rfl, ⟨rfl, ⟨rfl, ⟨rfl, trivial⟩⟩⟩⟩⟩⟩⟩⟩ ?_
  exact f_X11_spell_100_ok hs N _ _ _ _ _ _ _ _ h13 Q hw
set_option maxHeartbeats 4000000 in
set_option maxRecDepth 100000 in
theorem s_X11_spell {Γ : GX} (hs : SF Γ) {N : Nat} (l0 : Nat) (l1 : Int32) (l2 : Int32) (l3 : Int32) (l4 : Int32) (h : PH) (Q : Int32 → PH → Prop) (hw : wp (f_X11_spell N l0 l1 l2 l3 l4 h) Q) : Spec Γ yX11_spell cX11_spell 11 (some .int) (10, 0, 0) [.ref l0, .int l1, .int l2, .int l3, .int l4] h (q_i Q) := by
  refine Spec.of (by decide) (Nat.le_of_ble_eq_true rfl) [some (.ref l0), some (.int l1), some (.int l2), some (.int l3), some (.int l4), none, none, none, none, none, none] rfl ?_
  unfold f_X11_spell at hw
  refine G_aload_n dX11_spell_0 rfl ?_
  refine G_iconst (v := (0 : Int32)) dX11_spell_1 (by decide) ?_
  obtain ⟨c1, hw⟩ := wp_ck hw
  refine G_putI fl_X11_thrown w_1393 dX11_spell_2 c1 ?_
  refine G.nmh fun h2 eh2 => ?_
  have hw := wp_bd hw h2 eh2
  refine G_aload_n dX11_spell_5 rfl ?_
  refine G_iload_n dX11_spell_6 rfl ?_
  obtain ⟨c5, hw⟩ := wp_ck hw
  refine G_callV (As := [.int l1]) (s_X11_isFlue hs l0 l1 h2 _ (wp_cl hw)) ca_X11_isFlue w_1794 w_78 (ci := 10) rfl (by decide) w_1792 c5 (Nat.le_of_ble_eq_true rfl) (Nat.le_of_ble_eq_true rfl) rfl (Nat.le_of_ble_eq_true rfl) (Nat.le_of_ble_eq_true rfl) (Nat.le_of_ble_eq_true rfl) dX11_spell_7 rfl (fun v h4 hq => ?_)
  obtain ⟨r3, rfl, hw⟩ := hq
  refine G.cse (cs' := (0, 0)) rfl ?_
  show GZ _ _ _ _ _ _ _ 10 _ (.int r3 :: []) _ _
  have hw := wp_if hw
  refine G_if_eq (tgt := 61) dX11_spell_10 rfl (fun c6 => ?_) (fun c6 => ?_)
  · have hw := hw.1 c6
    refine G_bipush (v := (-2 : Int32)) dX11_spell_61 (by decide) ?_
    exact G_ireturn rfl dX11_spell_63 ⟨_, rfl, wp_ret hw⟩
  · have hw := hw.2 c6
    refine G_iload_n dX11_spell_13 rfl ?_
    refine G_iconst (v := (-1 : Int32)) dX11_spell_14 (by decide) ?_
    refine G_aload_n dX11_spell_15 rfl ?_
    obtain ⟨c7, hw⟩ := wp_ck hw
    refine G_getR fl_X11_valley w_1403 dX11_spell_16 c7 ?_
    obtain ⟨a8, ea8, hw⟩ := wp_rq hw
    refine G.sure ea8 ?_
    refine G_iconst (v := (3 : Int32)) dX11_spell_19 (by decide) ?_
    obtain ⟨c9, hw⟩ := wp_ck hw
    obtain ⟨c10, hw⟩ := wp_ck hw
    refine G_ialoadK (k := 3) dX11_spell_20 c9 (by decide) rfl c10 ?_
    refine G_iconst (v := (1 : Int32)) dX11_spell_21 (by decide) ?_
    refine G_isub dX11_spell_22 ?_
    refine G_callS (As := [.int l2, .int (-1 : Int32), .int ((hI h4 a8 3) - (1 : Int32))]) (s_X11_within hs l2 (-1 : Int32) ((hI h4 a8 3) - (1 : Int32)) h4 _ (wp_cl hw)) ca_X11_within w_1686 w_1685 (Nat.le_of_ble_eq_true rfl) (Nat.le_of_ble_eq_true rfl) rfl (Nat.le_of_ble_eq_true rfl) (Nat.le_of_ble_eq_true rfl) (Nat.le_of_ble_eq_true rfl) dX11_spell_23 rfl (fun v h12 hq => ?_)
    obtain ⟨r11, rfl, hw⟩ := hq
    refine G.cse (cs' := (0, 0)) rfl ?_
    show GZ _ _ _ _ _ _ _ 26 _ (.int r11 :: []) _ _
    have hw := wp_if hw
    refine G_if_eq (tgt := 61) dX11_spell_26 rfl (fun c13 => ?_) (fun c13 => ?_)
    · have hw := hw.1 c13
      refine G_bipush (v := (-2 : Int32)) dX11_spell_61 (by decide) ?_
      exact G_ireturn rfl dX11_spell_63 ⟨_, rfl, wp_ret hw⟩
    · have hw := hw.2 c13
      refine G_iload_n dX11_spell_29 rfl ?_
      refine G_bipush (v := (-2 : Int32)) dX11_spell_30 (by decide) ?_
      refine G_aload_n dX11_spell_32 rfl ?_
      obtain ⟨c14, hw⟩ := wp_ck hw
      refine G_getR fl_X11_valley w_1403 dX11_spell_33 c14 ?_
      obtain ⟨a15, ea15, hw⟩ := wp_rq hw
      refine G.sure ea15 ?_
      refine G_iconst (v := (3 : Int32)) dX11_spell_36 (by decide) ?_
      obtain ⟨c16, hw⟩ := wp_ck hw
      obtain ⟨c17, hw⟩ := wp_ck hw
      refine G_ialoadK (k := 3) dX11_spell_37 c16 (by decide) rfl c17 ?_
      refine G_iconst (v := (1 : Int32)) dX11_spell_38 (by decide) ?_
      refine G_isub dX11_spell_39 ?_
      refine G_callS (As := [.int l3, .int (-2 : Int32), .int ((hI h12 a15 3) - (1 : Int32))]) (s_X11_within hs l3 (-2 : Int32) ((hI h12 a15 3) - (1 : Int32)) h12 _ (wp_cl hw)) ca_X11_within w_1686 w_1685 (Nat.le_of_ble_eq_true rfl) (Nat.le_of_ble_eq_true rfl) rfl (Nat.le_of_ble_eq_true rfl) (Nat.le_of_ble_eq_true rfl) (Nat.le_of_ble_eq_true rfl) dX11_spell_40 rfl (fun v h19 hq => ?_)
      obtain ⟨r18, rfl, hw⟩ := hq
      refine G.cse (cs' := (0, 0)) rfl ?_
      show GZ _ _ _ _ _ _ _ 43 _ (.int r18 :: []) _ _
      have hw := wp_if hw
      refine G_if_eq (tgt := 61) dX11_spell_43 rfl (fun c20 => ?_) (fun c20 => ?_)
      · have hw := hw.1 c20
        refine G_bipush (v := (-2 : Int32)) dX11_spell_61 (by decide) ?_
        exact G_ireturn rfl dX11_spell_63 ⟨_, rfl, wp_ret hw⟩
      · have hw := hw.2 c20
        refine G_iload dX11_spell_46 rfl ?_
        refine G_iconst (v := (-1 : Int32)) dX11_spell_48 (by decide) ?_
        have hw := wp_if hw
        refine G_icmp_eq (tgt := 64) dX11_spell_49 rfl (fun c21 => ?_) (fun c21 => ?_)
        · have hw := hw.1 c21
          refine G.less [some (.ref l0), some (.int l1), some (.int l2), some (.int l3), some (.int l4), none, none, none, none, none, none] ⟨rfl, ⟨rfl, ⟨rfl, ⟨rfl, ⟨rfl, trivial⟩⟩⟩⟩⟩ ?_
          exact f_X11_spell_64_ok hs _ _ _ _ _ h19 Q hw
        · have hw := hw.2 c21
          refine G_aload_n dX11_spell_52 rfl ?_
          refine G_iload dX11_spell_53 rfl ?_
          obtain ⟨c24, hw⟩ := wp_ck hw
          refine G_callV (As := [.int l4]) (s_X11_isHouse hs l0 l4 h19 _ (wp_cl hw)) ca_X11_isHouse w_1786 w_77 (ci := 10) rfl (by decide) w_1784 c24 (Nat.le_of_ble_eq_true rfl) (Nat.le_of_ble_eq_true rfl) rfl (Nat.le_of_ble_eq_true rfl) (Nat.le_of_ble_eq_true rfl) (Nat.le_of_ble_eq_true rfl) dX11_spell_55 rfl (fun v h23 hq => ?_)
          obtain ⟨r22, rfl, hw⟩ := hq
          refine G.cse (cs' := (0, 0)) rfl ?_
          show GZ _ _ _ _ _ _ _ 58 _ (.int r22 :: []) _ _
          have hw := wp_if hw
          refine G_if_ne (tgt := 64) dX11_spell_58 rfl (fun c25 => ?_) (fun c25 => ?_)
          · have hw := hw.2 c25
            refine G.less [some (.ref l0), some (.int l1), some (.int l2), some (.int l3), some (.int l4), none, none, none, none, none, none] ⟨rfl, ⟨rfl, ⟨rfl, ⟨rfl, ⟨rfl, trivial⟩⟩⟩⟩⟩ ?_
            exact f_X11_spell_64_ok hs _ _ _ _ _ h23 Q hw
          · have hw := hw.1 c25
            refine G_bipush (v := (-2 : Int32)) dX11_spell_61 (by decide) ?_
            exact G_ireturn rfl dX11_spell_63 ⟨_, rfl, wp_ret hw⟩
set_option maxHeartbeats 4000000 in
set_option maxRecDepth 100000 in
theorem f_X11_hopes_87_ok {Γ : GX} (hs : SF Γ) {N : Nat} {K_48 : Nat → Int32 → Int32 → Int32 → Int32 → PH → Option (Unit × PH)} (hK_48 : ∀ (l0 : Nat) (l1 : Int32) (l3 : Int32) (l4 : Int32) (l5 : Int32) (h : PH) (Q : Unit → PH → Prop), wp (K_48 l0 l1 l3 l4 l5 h) Q → G Γ yX11_hopes cX11_hopes 6 none (9, 0, 0) 48 [some (.ref l0), some (.int l1), none, some (.int l3), some (.int l4), some (.int l5)] [] h (0, 0) (q_u Q)) (s0 : Int32) (s1 : Int32) (s2 : Nat) (l0 : Nat) (l1 : Int32) (l3 : Int32) (l4 : Int32) (h : PH) (Q : Unit → PH → Prop) (hw : wp (f_X11_hopes_87 N K_48 s0 s1 s2 l0 l1 l3 l4 h) Q) : G Γ yX11_hopes cX11_hopes 6 none (9, 0, 0) 87 [some (.ref l0), some (.int l1), none, some (.int l3), some (.int l4), none] [.int s0, .int s1, .ref s2] h (0, 0) (q_u Q) := by
  unfold f_X11_hopes_87 at hw
  refine G_iadd dX11_hopes_87 ?_
  obtain ⟨c1, hw⟩ := wp_ck hw
  refine G_putI fl_X11_hopeRead w_1454 dX11_hopes_88 c1 ?_
  refine G.nmh fun h2 eh2 => ?_
  have hw := wp_bd hw h2 eh2
  refine G_aload_n dX11_hopes_91 rfl ?_
  refine G_iload dX11_hopes_92 rfl ?_
  obtain ⟨c5, hw⟩ := wp_ck hw
  refine G_callV (As := [.int l4]) (s_X11_nextWay hs l0 l4 h2 _ (wp_cl hw)) ca_X11_nextWay w_1949 w_109 (ci := 10) rfl (by decide) w_1947 c5 (Nat.le_of_ble_eq_true rfl) (Nat.le_of_ble_eq_true rfl) rfl (Nat.le_of_ble_eq_true rfl) (Nat.le_of_ble_eq_true rfl) (Nat.le_of_ble_eq_true rfl) dX11_hopes_94 rfl (fun v h4 hq => ?_)
  obtain ⟨r3, rfl, hw⟩ := hq
  refine G.cse (cs' := (0, 0)) rfl ?_
  show GZ _ _ _ _ _ _ _ 97 _ (.int r3 :: []) _ _
  refine G_istore (lv' := [some (.ref l0), some (.int l1), none, some (.int l3), some (.int l4), some (.int r3)]) dX11_hopes_97 (Nat.le_of_ble_eq_true rfl) rfl ?_
  refine G_goto (tgt := 48) dX11_hopes_99 rfl ?_
  refine G.less [some (.ref l0), some (.int l1), none, some (.int l3), some (.int l4), some (.int r3)] ⟨rfl, ⟨rfl, ⟨rfl, ⟨rfl, ⟨rfl, trivial⟩⟩⟩⟩⟩ ?_
  exact hK_48 _ _ _ _ _ h4 Q hw
set_option maxHeartbeats 4000000 in
set_option maxRecDepth 100000 in
theorem f_X11_hopes_48_bok {Γ : GX} (hs : SF Γ) {N : Nat} {K_48 : Nat → Int32 → Int32 → Int32 → Int32 → PH → Option (Unit × PH)} (hK_48 : ∀ (l0 : Nat) (l1 : Int32) (l3 : Int32) (l4 : Int32) (l5 : Int32) (h : PH) (Q : Unit → PH → Prop), wp (K_48 l0 l1 l3 l4 l5 h) Q → G Γ yX11_hopes cX11_hopes 6 none (9, 0, 0) 48 [some (.ref l0), some (.int l1), none, some (.int l3), some (.int l4), some (.int l5)] [] h (0, 0) (q_u Q)) (l0 : Nat) (l1 : Int32) (l3 : Int32) (l4 : Int32) (l5 : Int32) (h : PH) (Q : Unit → PH → Prop) (hw : wp (f_X11_hopes_48_b N K_48 l0 l1 l3 l4 l5 h) Q) : G Γ yX11_hopes cX11_hopes 6 none (9, 0, 0) 48 [some (.ref l0), some (.int l1), none, some (.int l3), some (.int l4), some (.int l5)] [] h (0, 0) (q_u Q) := by
  unfold f_X11_hopes_48_b at hw
  refine G_iload dX11_hopes_48 rfl ?_
  have hw := wp_if hw
  refine G_if_eq (tgt := 102) dX11_hopes_50 rfl (fun c1 => ?_) (fun c1 => ?_)
  · have hw := hw.1 c1
    exact G_vreturn rfl dX11_hopes_102 ⟨rfl, wp_ret hw⟩
  · have hw := hw.2 c1
    refine G_aload_n dX11_hopes_53 rfl ?_
    refine G_dup dX11_hopes_54 rfl ?_
    obtain ⟨c2, hw⟩ := wp_ck hw
    refine G_getI fl_X11_hopeAll w_1455 dX11_hopes_55 c2 ?_
    refine G_iconst (v := (1 : Int32)) dX11_hopes_58 (by decide) ?_
    refine G_iadd dX11_hopes_59 ?_
    refine G_putI fl_X11_hopeAll w_1455 dX11_hopes_60 c2 ?_
    refine G.nmh fun h3 eh3 => ?_
    have hw := wp_bd hw h3 eh3
    refine G_aload_n dX11_hopes_63 rfl ?_
    refine G_dup dX11_hopes_64 rfl ?_
    obtain ⟨c4, hw⟩ := wp_ck hw
    refine G_getI fl_X11_hopeRead w_1454 dX11_hopes_65 c4 ?_
    refine G_aload_n dX11_hopes_68 rfl ?_
    refine G_aload_n dX11_hopes_69 rfl ?_
    refine G_getR fl_X11_houseAt w_1408 dX11_hopes_70 c4 ?_
    obtain ⟨a5, ea5, hw⟩ := wp_rq hw
    refine G.sure ea5 ?_
    refine G_iload_n dX11_hopes_73 rfl ?_
    obtain ⟨c6, hw⟩ := wp_ck hw
    obtain ⟨c7, hw⟩ := wp_ck hw
    refine G_iaload dX11_hopes_74 c6 c7 ?_
    refine G_callV (As := [.int (hI h3 a5 (ix l1))]) (s_X11_signBy hs l0 (hI h3 a5 (ix l1)) h3 _ (wp_cl hw)) ca_X11_signBy w_1929 w_104 (ci := 10) rfl (by decide) w_1927 c4 (Nat.le_of_ble_eq_true rfl) (Nat.le_of_ble_eq_true rfl) rfl (Nat.le_of_ble_eq_true rfl) (Nat.le_of_ble_eq_true rfl) (Nat.le_of_ble_eq_true rfl) dX11_hopes_75 rfl (fun v h9 hq => ?_)
    obtain ⟨r8, rfl, hw⟩ := hq
    refine G.cse (cs' := (0, 0)) rfl ?_
    show GZ _ _ _ _ _ _ _ 78 _ (.int r8 :: [.int (hI h3 l0 61), .ref l0]) _ _
    refine G_iload_n dX11_hopes_78 rfl ?_
    have hw := wp_if hw
    refine G_icmp_ne (tgt := 86) dX11_hopes_79 rfl (fun c10 => ?_) (fun c10 => ?_)
    · have hw := hw.2 c10
      refine G_iconst (v := (0 : Int32)) dX11_hopes_86 (by decide) ?_
      refine G.less [some (.ref l0), some (.int l1), none, some (.int l3), some (.int l4), none] ⟨rfl, ⟨rfl, ⟨rfl, ⟨rfl, trivial⟩⟩⟩⟩ ?_
      exact f_X11_hopes_87_ok hs hK_48 _ _ _ _ _ _ _ h9 Q hw
    · have hw := hw.1 c10
      refine G_iconst (v := (1 : Int32)) dX11_hopes_82 (by decide) ?_
      refine G_goto (tgt := 87) dX11_hopes_83 rfl ?_
      refine G.less [some (.ref l0), some (.int l1), none, some (.int l3), some (.int l4), none] ⟨rfl, ⟨rfl, ⟨rfl, ⟨rfl, trivial⟩⟩⟩⟩ ?_
      exact f_X11_hopes_87_ok hs hK_48 _ _ _ _ _ _ _ h9 Q hw
theorem f_X11_hopes_48_ok {Γ : GX} (hs : SF Γ) {N : Nat} : ∀ (n : Nat) (l0 : Nat) (l1 : Int32) (l3 : Int32) (l4 : Int32) (l5 : Int32) (h : PH) (Q : Unit → PH → Prop), wp (f_X11_hopes_48 N n l0 l1 l3 l4 l5 h) Q → G Γ yX11_hopes cX11_hopes 6 none (9, 0, 0) 48 [some (.ref l0), some (.int l1), none, some (.int l3), some (.int l4), some (.int l5)] [] h (0, 0) (q_u Q)
  | 0, _, _, _, _, _, _, Q, hw => (wp_no hw).elim
  | n + 1, l0, l1, l3, l4, l5, h, Q, hw => f_X11_hopes_48_bok (N := N) hs (f_X11_hopes_48_ok (N := N) hs n) l0 l1 l3 l4 l5 h Q hw
set_option maxHeartbeats 4000000 in
set_option maxRecDepth 100000 in
theorem s_X11_hopes {Γ : GX} (hs : SF Γ) {N : Nat} (l0 : Nat) (l1 : Int32) (l2 : Int32) (l3 : Int32) (h : PH) (Q : Unit → PH → Prop) (hw : wp (f_X11_hopes N l0 l1 l2 l3 h) Q) : Spec Γ yX11_hopes cX11_hopes 6 none (9, 0, 0) [.ref l0, .int l1, .int l2, .int l3] h (q_u Q) := by
  refine Spec.of (by decide) (Nat.le_of_ble_eq_true rfl) [some (.ref l0), some (.int l1), some (.int l2), some (.int l3), none, none] rfl ?_
  unfold f_X11_hopes at hw
  refine G_aload_n dX11_hopes_0 rfl ?_
  refine G_aload_n dX11_hopes_1 rfl ?_
  refine G_aload_n dX11_hopes_2 rfl ?_
  obtain ⟨c1, hw⟩ := wp_ck hw
  refine G_getR fl_X11_houseAt w_1408 dX11_hopes_3 c1 ?_
  obtain ⟨a2, ea2, hw⟩ := wp_rq hw
  refine G.sure ea2 ?_
  refine G_iload_n dX11_hopes_6 rfl ?_
  obtain ⟨c3, hw⟩ := wp_ck hw
  obtain ⟨c4, hw⟩ := wp_ck hw
  refine G_iaload dX11_hopes_7 c3 c4 ?_
  refine G_callV (As := [.int (hI h a2 (ix l1))]) (s_X11_housesOf hs l0 (hI h a2 (ix l1)) h _ (wp_cl hw)) ca_X11_housesOf w_1842 w_89 (ci := 10) rfl (by decide) w_1840 c1 (Nat.le_of_ble_eq_true rfl) (Nat.le_of_ble_eq_true rfl) rfl (Nat.le_of_ble_eq_true rfl) (Nat.le_of_ble_eq_true rfl) (Nat.le_of_ble_eq_true rfl) dX11_hopes_8 rfl (fun v h6 hq => ?_)
  obtain ⟨r5, rfl, hw⟩ := hq
  refine G.cse (cs' := (0, 0)) rfl ?_
  show GZ _ _ _ _ _ _ _ 11 _ (.int r5 :: [.ref l0]) _ _
  obtain ⟨c9, hw⟩ := wp_ck hw
  refine G_callV (As := [.int r5]) (s_X11_withoutFire hs l0 r5 h6 _ (wp_cl hw)) ca_X11_withoutFire w_1909 w_99 (ci := 10) rfl (by decide) w_1907 c9 (Nat.le_of_ble_eq_true rfl) (Nat.le_of_ble_eq_true rfl) rfl (Nat.le_of_ble_eq_true rfl) (Nat.le_of_ble_eq_true rfl) (Nat.le_of_ble_eq_true rfl) dX11_hopes_11 rfl (fun v h8 hq => ?_)
  obtain ⟨r7, rfl, hw⟩ := hq
  refine G.cse (cs' := (0, 0)) rfl ?_
  show GZ _ _ _ _ _ _ _ 14 _ (.int r7 :: []) _ _
  refine G_iconst (v := (1 : Int32)) dX11_hopes_14 (by decide) ?_
  refine G_iload_n dX11_hopes_15 rfl ?_
  refine G_ishl dX11_hopes_16 ?_
  refine G_iconst (v := (-1 : Int32)) dX11_hopes_17 (by decide) ?_
  refine G_ixor dX11_hopes_18 ?_
  refine G_iand dX11_hopes_19 ?_
  refine G.topi fun v10 ev10 => ?_
  have hw := wp_bd hw v10 ev10
  refine G_istore (lv' := [some (.ref l0), some (.int l1), some (.int l2), some (.int l3), some (.int v10), none]) dX11_hopes_20 (Nat.le_of_ble_eq_true rfl) rfl ?_
  refine G_aload_n dX11_hopes_22 rfl ?_
  refine G_iconst (v := (0 : Int32)) dX11_hopes_23 (by decide) ?_
  obtain ⟨c11, hw⟩ := wp_ck hw
  refine G_putI fl_X11_hopeRead w_1454 dX11_hopes_24 c11 ?_
  refine G.nmh fun h12 eh12 => ?_
  have hw := wp_bd hw h12 eh12
  refine G_aload_n dX11_hopes_27 rfl ?_
  refine G_iconst (v := (0 : Int32)) dX11_hopes_28 (by decide) ?_
  obtain ⟨c13, hw⟩ := wp_ck hw
  refine G_putI fl_X11_hopeAll w_1455 dX11_hopes_29 c13 ?_
  refine G.nmh fun h14 eh14 => ?_
  have hw := wp_bd hw h14 eh14
  refine G_aload_n dX11_hopes_32 rfl ?_
  refine G_iload dX11_hopes_33 rfl ?_
  obtain ⟨c17, hw⟩ := wp_ck hw
  refine G_callV (As := [.int v10]) (s_X11_firstWay hs l0 v10 h14 _ (wp_cl hw)) ca_X11_firstWay w_1913 w_100 (ci := 10) rfl (by decide) w_1911 c17 (Nat.le_of_ble_eq_true rfl) (Nat.le_of_ble_eq_true rfl) rfl (Nat.le_of_ble_eq_true rfl) (Nat.le_of_ble_eq_true rfl) (Nat.le_of_ble_eq_true rfl) dX11_hopes_35 rfl (fun v h16 hq => ?_)
  obtain ⟨rfl, hw⟩ := hq
  refine G.cse (cs' := (0, 0)) rfl ?_
  show GZ _ _ _ _ _ _ _ 38 _ [] _ _
  refine G_aload_n dX11_hopes_38 rfl ?_
  obtain ⟨c18, hw⟩ := wp_ck hw
  refine G_getR fl_X11_way w_1450 dX11_hopes_39 c18 ?_
  obtain ⟨a19, ea19, hw⟩ := wp_rq hw
  refine G.sure ea19 ?_
  refine G_iload_n dX11_hopes_42 rfl ?_
  refine G_iload_n dX11_hopes_43 rfl ?_
  obtain ⟨c20, hw⟩ := wp_ck hw
  obtain ⟨c21, hw⟩ := wp_ck hw
  refine G_iastore dX11_hopes_44 c20 c21 ?_
  refine G.nmh fun h22 eh22 => ?_
  have hw := wp_bd hw h22 eh22
  refine G_iconst (v := (1 : Int32)) dX11_hopes_45 (by decide) ?_
  refine G_istore (lv' := [some (.ref l0), some (.int l1), some (.int l2), some (.int l3), some (.int v10), some (.int (1 : Int32))]) dX11_hopes_46 (Nat.le_of_ble_eq_true rfl) rfl ?_
  refine G.less [some (.ref l0), some (.int l1), none, some (.int l3), some (.int v10), some (.int (1 : Int32))] ⟨rfl, ⟨rfl, ⟨rfl, ⟨rfl, ⟨rfl, trivial⟩⟩⟩⟩⟩ ?_
  exact f_X11_hopes_48_ok hs N _ _ _ _ _ h22 Q hw
set_option maxHeartbeats 4000000 in
set_option maxRecDepth 100000 in
theorem f_X11_sure_75_ok {Γ : GX} (hs : SF Γ) {N : Nat} {K_33 : Nat → Int32 → Int32 → Int32 → PH → Option (Int32 × PH)} (hK_33 : ∀ (l0 : Nat) (l1 : Int32) (l2 : Int32) (l3 : Int32) (h : PH) (Q : Int32 → PH → Prop), wp (K_33 l0 l1 l2 l3 h) Q → G Γ yX11_sure cX11_sure 4 (some .int) (10, 0, 0) 33 [some (.ref l0), some (.int l1), some (.int l2), some (.int l3)] [] h (0, 0) (q_i Q)) (l0 : Nat) (l1 : Int32) (l2 : Int32) (l3 : Int32) (h : PH) (Q : Int32 → PH → Prop) (hw : wp (f_X11_sure_75 N K_33 l0 l1 l2 l3 h) Q) : G Γ yX11_sure cX11_sure 4 (some .int) (10, 0, 0) 75 [some (.ref l0), some (.int l1), some (.int l2), some (.int l3)] [] h (0, 0) (q_i Q) := by
  unfold f_X11_sure_75 at hw
  obtain ⟨v1, ev1⟩ : ∃ z : Int32, z = l3 + (1 : Int32) := ⟨_, rfl⟩
  have hw := wp_bd hw v1 ev1
  refine G_iinc (v := v1) (lv' := [some (.ref l0), some (.int l1), some (.int l2), some (.int v1)]) dX11_sure_75 rfl (by rw [ev1]; rfl) (Nat.le_of_ble_eq_true rfl) rfl ?_
  refine G_goto (tgt := 33) dX11_sure_78 rfl ?_
  refine G.less [some (.ref l0), some (.int l1), some (.int l2), some (.int v1)] ⟨rfl, ⟨rfl, ⟨rfl, ⟨rfl, trivial⟩⟩⟩⟩ ?_
  exact hK_33 _ _ _ _ h Q hw
set_option maxHeartbeats 4000000 in
set_option maxRecDepth 100000 in
theorem f_X11_sure_33_bok {Γ : GX} (hs : SF Γ) {N : Nat} {K_33 : Nat → Int32 → Int32 → Int32 → PH → Option (Int32 × PH)} (hK_33 : ∀ (l0 : Nat) (l1 : Int32) (l2 : Int32) (l3 : Int32) (h : PH) (Q : Int32 → PH → Prop), wp (K_33 l0 l1 l2 l3 h) Q → G Γ yX11_sure cX11_sure 4 (some .int) (10, 0, 0) 33 [some (.ref l0), some (.int l1), some (.int l2), some (.int l3)] [] h (0, 0) (q_i Q)) (l0 : Nat) (l1 : Int32) (l2 : Int32) (l3 : Int32) (h : PH) (Q : Int32 → PH → Prop) (hw : wp (f_X11_sure_33_b N K_33 l0 l1 l2 l3 h) Q) : G Γ yX11_sure cX11_sure 4 (some .int) (10, 0, 0) 33 [some (.ref l0), some (.int l1), some (.int l2), some (.int l3)] [] h (0, 0) (q_i Q) := by
  unfold f_X11_sure_33_b at hw
  refine G_iload_n dX11_sure_33 rfl ?_
  refine G_aload_n dX11_sure_34 rfl ?_
  obtain ⟨c1, hw⟩ := wp_ck hw
  refine G_getR fl_X11_valley w_1403 dX11_sure_35 c1 ?_
  obtain ⟨a2, ea2, hw⟩ := wp_rq hw
  refine G.sure ea2 ?_
  refine G_iconst (v := (0 : Int32)) dX11_sure_38 (by decide) ?_
  obtain ⟨c3, hw⟩ := wp_ck hw
  obtain ⟨c4, hw⟩ := wp_ck hw
  refine G_ialoadK (k := 0) dX11_sure_39 c3 (by decide) rfl c4 ?_
  have hw := wp_if hw
  refine G_icmp_ge (tgt := 81) dX11_sure_40 rfl (fun c5 => ?_) (fun c5 => ?_)
  · have hw := hw.1 c5
    refine G_iconst (v := (-1 : Int32)) dX11_sure_81 (by decide) ?_
    exact G_ireturn rfl dX11_sure_82 ⟨_, rfl, wp_ret hw⟩
  · have hw := hw.2 c5
    refine G_aload_n dX11_sure_43 rfl ?_
    refine G_iload_n dX11_sure_44 rfl ?_
    refine G_iload_n dX11_sure_45 rfl ?_
    refine G_callV (As := [.int l1, .int l3]) (s_X11_canBurn hs l0 l1 l3 h _ (wp_cl hw)) ca_X11_canBurn w_1854 w_91 (ci := 10) rfl (by decide) w_1852 c1 (Nat.le_of_ble_eq_true rfl) (Nat.le_of_ble_eq_true rfl) rfl (Nat.le_of_ble_eq_true rfl) (Nat.le_of_ble_eq_true rfl) (Nat.le_of_ble_eq_true rfl) dX11_sure_46 rfl (fun v h7 hq => ?_)
    obtain ⟨r6, rfl, hw⟩ := hq
    refine G.cse (cs' := (0, 0)) rfl ?_
    show GZ _ _ _ _ _ _ _ 49 _ (.int r6 :: []) _ _
    have hw := wp_if hw
    refine G_if_ne (tgt := 55) dX11_sure_49 rfl (fun c8 => ?_) (fun c8 => ?_)
    · have hw := hw.2 c8
      refine G_aload_n dX11_sure_55 rfl ?_
      refine G_iload_n dX11_sure_56 rfl ?_
      refine G_iload_n dX11_sure_57 rfl ?_
      refine G_iload_n dX11_sure_58 rfl ?_
      obtain ⟨c11, hw⟩ := wp_ck hw
      refine G_callV (As := [.int l1, .int l3, .int l2]) (s_X11_hopes hs l0 l1 l3 l2 h7 _ (wp_cl hw)) ca_X11_hopes w_1961 w_111 (ci := 10) rfl (by decide) w_1959 c11 (Nat.le_of_ble_eq_true rfl) (Nat.le_of_ble_eq_true rfl) rfl (Nat.le_of_ble_eq_true rfl) (Nat.le_of_ble_eq_true rfl) (Nat.le_of_ble_eq_true rfl) dX11_sure_59 rfl (fun v h10 hq => ?_)
      obtain ⟨rfl, hw⟩ := hq
      refine G.cse (cs' := (0, 0)) rfl ?_
      show GZ _ _ _ _ _ _ _ 62 _ [] _ _
      refine G_aload_n dX11_sure_62 rfl ?_
      obtain ⟨c12, hw⟩ := wp_ck hw
      refine G_getI fl_X11_hopeRead w_1454 dX11_sure_63 c12 ?_
      refine G_aload_n dX11_sure_66 rfl ?_
      refine G_getI fl_X11_hopeAll w_1455 dX11_sure_67 c12 ?_
      have hw := wp_if hw
      refine G_icmp_ne (tgt := 75) dX11_sure_70 rfl (fun c13 => ?_) (fun c13 => ?_)
      · have hw := hw.2 c13
        refine G.less [some (.ref l0), some (.int l1), some (.int l2), some (.int l3)] ⟨rfl, ⟨rfl, ⟨rfl, ⟨rfl, trivial⟩⟩⟩⟩ ?_
        exact f_X11_sure_75_ok hs hK_33 _ _ _ _ h10 Q hw
      · have hw := hw.1 c13
        refine G_iload_n dX11_sure_73 rfl ?_
        exact G_ireturn rfl dX11_sure_74 ⟨_, rfl, wp_ret hw⟩
    · have hw := hw.1 c8
      refine G_goto (tgt := 75) dX11_sure_52 rfl ?_
      refine G.less [some (.ref l0), some (.int l1), some (.int l2), some (.int l3)] ⟨rfl, ⟨rfl, ⟨rfl, ⟨rfl, trivial⟩⟩⟩⟩ ?_
      exact f_X11_sure_75_ok hs hK_33 _ _ _ _ h7 Q hw
theorem f_X11_sure_33_ok {Γ : GX} (hs : SF Γ) {N : Nat} : ∀ (n : Nat) (l0 : Nat) (l1 : Int32) (l2 : Int32) (l3 : Int32) (h : PH) (Q : Int32 → PH → Prop), wp (f_X11_sure_33 N n l0 l1 l2 l3 h) Q → G Γ yX11_sure cX11_sure 4 (some .int) (10, 0, 0) 33 [some (.ref l0), some (.int l1), some (.int l2), some (.int l3)] [] h (0, 0) (q_i Q)
  | 0, _, _, _, _, _, Q, hw => (wp_no hw).elim
  | n + 1, l0, l1, l2, l3, h, Q, hw => f_X11_sure_33_bok (N := N) hs (f_X11_sure_33_ok (N := N) hs n) l0 l1 l2 l3 h Q hw
set_option maxHeartbeats 4000000 in
set_option maxRecDepth 100000 in
theorem s_X11_sure {Γ : GX} (hs : SF Γ) {N : Nat} (l0 : Nat) (l1 : Int32) (l2 : Int32) (h : PH) (Q : Int32 → PH → Prop) (hw : wp (f_X11_sure N l0 l1 l2 h) Q) : Spec Γ yX11_sure cX11_sure 4 (some .int) (10, 0, 0) [.ref l0, .int l1, .int l2] h (q_i Q) := by
  refine Spec.of (by decide) (Nat.le_of_ble_eq_true rfl) [some (.ref l0), some (.int l1), some (.int l2), none] rfl ?_
  unfold f_X11_sure at hw
  refine G_aload_n dX11_sure_0 rfl ?_
  refine G_iconst (v := (0 : Int32)) dX11_sure_1 (by decide) ?_
  obtain ⟨c1, hw⟩ := wp_ck hw
  refine G_putI fl_X11_thrown w_1393 dX11_sure_2 c1 ?_
  refine G.nmh fun h2 eh2 => ?_
  have hw := wp_bd hw h2 eh2
  refine G_aload_n dX11_sure_5 rfl ?_
  refine G_iload_n dX11_sure_6 rfl ?_
  obtain ⟨c5, hw⟩ := wp_ck hw
  refine G_callV (As := [.int l1]) (s_X11_isHouse hs l0 l1 h2 _ (wp_cl hw)) ca_X11_isHouse w_1786 w_77 (ci := 10) rfl (by decide) w_1784 c5 (Nat.le_of_ble_eq_true rfl) (Nat.le_of_ble_eq_true rfl) rfl (Nat.le_of_ble_eq_true rfl) (Nat.le_of_ble_eq_true rfl) (Nat.le_of_ble_eq_true rfl) dX11_sure_7 rfl (fun v h4 hq => ?_)
  obtain ⟨r3, rfl, hw⟩ := hq
  refine G.cse (cs' := (0, 0)) rfl ?_
  show GZ _ _ _ _ _ _ _ 10 _ (.int r3 :: []) _ _
  have hw := wp_if hw
  refine G_if_eq (tgt := 29) dX11_sure_10 rfl (fun c6 => ?_) (fun c6 => ?_)
  · have hw := hw.1 c6
    refine G_iconst (v := (-1 : Int32)) dX11_sure_29 (by decide) ?_
    exact G_ireturn rfl dX11_sure_30 ⟨_, rfl, wp_ret hw⟩
  · have hw := hw.2 c6
    refine G_aload_n dX11_sure_13 rfl ?_
    refine G_iload_n dX11_sure_14 rfl ?_
    obtain ⟨c9, hw⟩ := wp_ck hw
    refine G_callV (As := [.int l2]) (s_X11_isTold hs l0 l2 h4 _ (wp_cl hw)) ca_X11_isTold w_1957 w_110 (ci := 10) rfl (by decide) w_1955 c9 (Nat.le_of_ble_eq_true rfl) (Nat.le_of_ble_eq_true rfl) rfl (Nat.le_of_ble_eq_true rfl) (Nat.le_of_ble_eq_true rfl) (Nat.le_of_ble_eq_true rfl) dX11_sure_15 rfl (fun v h8 hq => ?_)
    obtain ⟨r7, rfl, hw⟩ := hq
    refine G.cse (cs' := (0, 0)) rfl ?_
    show GZ _ _ _ _ _ _ _ 18 _ (.int r7 :: []) _ _
    have hw := wp_if hw
    refine G_if_eq (tgt := 29) dX11_sure_18 rfl (fun c10 => ?_) (fun c10 => ?_)
    · have hw := hw.1 c10
      refine G_iconst (v := (-1 : Int32)) dX11_sure_29 (by decide) ?_
      exact G_ireturn rfl dX11_sure_30 ⟨_, rfl, wp_ret hw⟩
    · have hw := hw.2 c10
      refine G_aload_n dX11_sure_21 rfl ?_
      refine G_iload_n dX11_sure_22 rfl ?_
      obtain ⟨c13, hw⟩ := wp_ck hw
      refine G_callV (As := [.int l1]) (s_X11_isFire hs l0 l1 h8 _ (wp_cl hw)) ca_X11_isFire w_1806 w_81 (ci := 10) rfl (by decide) w_1804 c13 (Nat.le_of_ble_eq_true rfl) (Nat.le_of_ble_eq_true rfl) rfl (Nat.le_of_ble_eq_true rfl) (Nat.le_of_ble_eq_true rfl) (Nat.le_of_ble_eq_true rfl) dX11_sure_23 rfl (fun v h12 hq => ?_)
      obtain ⟨r11, rfl, hw⟩ := hq
      refine G.cse (cs' := (0, 0)) rfl ?_
      show GZ _ _ _ _ _ _ _ 26 _ (.int r11 :: []) _ _
      have hw := wp_if hw
      refine G_if_eq (tgt := 31) dX11_sure_26 rfl (fun c14 => ?_) (fun c14 => ?_)
      · have hw := hw.1 c14
        refine G_iconst (v := (0 : Int32)) dX11_sure_31 (by decide) ?_
        refine G_istore_n (lv' := [some (.ref l0), some (.int l1), some (.int l2), some (.int (0 : Int32))]) dX11_sure_32 (Nat.le_of_ble_eq_true rfl) rfl ?_
        refine G.less [some (.ref l0), some (.int l1), some (.int l2), some (.int (0 : Int32))] ⟨rfl, ⟨rfl, ⟨rfl, ⟨rfl, trivial⟩⟩⟩⟩ ?_
        exact f_X11_sure_33_ok hs N _ _ _ _ h12 Q hw
      · have hw := hw.2 c14
        refine G_iconst (v := (-1 : Int32)) dX11_sure_29 (by decide) ?_
        exact G_ireturn rfl dX11_sure_30 ⟨_, rfl, wp_ret hw⟩
set_option maxHeartbeats 4000000 in
set_option maxRecDepth 100000 in
theorem s_X11_hope {Γ : GX} (hs : SF Γ) {N : Nat} (l0 : Nat) (l1 : Int32) (l2 : Int32) (l3 : Int32) (h : PH) (Q : Int32 → PH → Prop) (hw : wp (f_X11_hope N l0 l1 l2 l3 h) Q) : Spec Γ yX11_hope cX11_hope 4 (some .int) (10, 0, 0) [.ref l0, .int l1, .int l2, .int l3] h (q_i Q) := by
  refine Spec.of (by decide) (Nat.le_of_ble_eq_true rfl) [some (.ref l0), some (.int l1), some (.int l2), some (.int l3)] rfl ?_
  unfold f_X11_hope at hw
  refine G_aload_n dX11_hope_0 rfl ?_
  refine G_iconst (v := (0 : Int32)) dX11_hope_1 (by decide) ?_
  obtain ⟨c1, hw⟩ := wp_ck hw
  refine G_putI fl_X11_thrown w_1393 dX11_hope_2 c1 ?_
  refine G.nmh fun h2 eh2 => ?_
  have hw := wp_bd hw h2 eh2
  refine G_aload_n dX11_hope_5 rfl ?_
  refine G_iload_n dX11_hope_6 rfl ?_
  obtain ⟨c5, hw⟩ := wp_ck hw
  refine G_callV (As := [.int l1]) (s_X11_isHouse hs l0 l1 h2 _ (wp_cl hw)) ca_X11_isHouse w_1786 w_77 (ci := 10) rfl (by decide) w_1784 c5 (Nat.le_of_ble_eq_true rfl) (Nat.le_of_ble_eq_true rfl) rfl (Nat.le_of_ble_eq_true rfl) (Nat.le_of_ble_eq_true rfl) (Nat.le_of_ble_eq_true rfl) dX11_hope_7 rfl (fun v h4 hq => ?_)
  obtain ⟨r3, rfl, hw⟩ := hq
  refine G.cse (cs' := (0, 0)) rfl ?_
  show GZ _ _ _ _ _ _ _ 10 _ (.int r3 :: []) _ _
  have hw := wp_if hw
  refine G_if_eq (tgt := 38) dX11_hope_10 rfl (fun c6 => ?_) (fun c6 => ?_)
  · have hw := hw.1 c6
    refine G_iconst (v := (-1 : Int32)) dX11_hope_38 (by decide) ?_
    exact G_ireturn rfl dX11_hope_39 ⟨_, rfl, wp_ret hw⟩
  · have hw := hw.2 c6
    refine G_aload_n dX11_hope_13 rfl ?_
    refine G_iload_n dX11_hope_14 rfl ?_
    obtain ⟨c9, hw⟩ := wp_ck hw
    refine G_callV (As := [.int l2]) (s_X11_isFuel hs l0 l2 h4 _ (wp_cl hw)) ca_X11_isFuel w_1850 w_90 (ci := 10) rfl (by decide) w_1848 c9 (Nat.le_of_ble_eq_true rfl) (Nat.le_of_ble_eq_true rfl) rfl (Nat.le_of_ble_eq_true rfl) (Nat.le_of_ble_eq_true rfl) (Nat.le_of_ble_eq_true rfl) dX11_hope_15 rfl (fun v h8 hq => ?_)
    obtain ⟨r7, rfl, hw⟩ := hq
    refine G.cse (cs' := (0, 0)) rfl ?_
    show GZ _ _ _ _ _ _ _ 18 _ (.int r7 :: []) _ _
    have hw := wp_if hw
    refine G_if_eq (tgt := 38) dX11_hope_18 rfl (fun c10 => ?_) (fun c10 => ?_)
    · have hw := hw.1 c10
      refine G_iconst (v := (-1 : Int32)) dX11_hope_38 (by decide) ?_
      exact G_ireturn rfl dX11_hope_39 ⟨_, rfl, wp_ret hw⟩
    · have hw := hw.2 c10
      refine G_aload_n dX11_hope_21 rfl ?_
      refine G_iload_n dX11_hope_22 rfl ?_
      obtain ⟨c13, hw⟩ := wp_ck hw
      refine G_callV (As := [.int l3]) (s_X11_isTold hs l0 l3 h8 _ (wp_cl hw)) ca_X11_isTold w_1957 w_110 (ci := 10) rfl (by decide) w_1955 c13 (Nat.le_of_ble_eq_true rfl) (Nat.le_of_ble_eq_true rfl) rfl (Nat.le_of_ble_eq_true rfl) (Nat.le_of_ble_eq_true rfl) (Nat.le_of_ble_eq_true rfl) dX11_hope_23 rfl (fun v h12 hq => ?_)
      obtain ⟨r11, rfl, hw⟩ := hq
      refine G.cse (cs' := (0, 0)) rfl ?_
      show GZ _ _ _ _ _ _ _ 26 _ (.int r11 :: []) _ _
      have hw := wp_if hw
      refine G_if_eq (tgt := 38) dX11_hope_26 rfl (fun c14 => ?_) (fun c14 => ?_)
      · have hw := hw.1 c14
        refine G_iconst (v := (-1 : Int32)) dX11_hope_38 (by decide) ?_
        exact G_ireturn rfl dX11_hope_39 ⟨_, rfl, wp_ret hw⟩
      · have hw := hw.2 c14
        refine G_aload_n dX11_hope_29 rfl ?_
        refine G_iload_n dX11_hope_30 rfl ?_
        refine G_iload_n dX11_hope_31 rfl ?_
        obtain ⟨c17, hw⟩ := wp_ck hw
        refine G_callV (As := [.int l1, .int l2]) (s_X11_canBurn hs l0 l1 l2 h12 _ (wp_cl hw)) ca_X11_canBurn w_1854 w_91 (ci := 10) rfl (by decide) w_1852 c17 (Nat.le_of_ble_eq_true rfl) (Nat.le_of_ble_eq_true rfl) rfl (Nat.le_of_ble_eq_true rfl) (Nat.le_of_ble_eq_true rfl) (Nat.le_of_ble_eq_true rfl) dX11_hope_32 rfl (fun v h16 hq => ?_)
        obtain ⟨r15, rfl, hw⟩ := hq
        refine G.cse (cs' := (0, 0)) rfl ?_
        show GZ _ _ _ _ _ _ _ 35 _ (.int r15 :: []) _ _
        have hw := wp_if hw
        refine G_if_ne (tgt := 40) dX11_hope_35 rfl (fun c18 => ?_) (fun c18 => ?_)
        · have hw := hw.2 c18
          refine G_aload_n dX11_hope_40 rfl ?_
          refine G_iload_n dX11_hope_41 rfl ?_
          refine G_iload_n dX11_hope_42 rfl ?_
          refine G_iload_n dX11_hope_43 rfl ?_
          obtain ⟨c21, hw⟩ := wp_ck hw
          refine G_callV (As := [.int l1, .int l2, .int l3]) (s_X11_hopes hs l0 l1 l2 l3 h16 _ (wp_cl hw)) ca_X11_hopes w_1961 w_111 (ci := 10) rfl (by decide) w_1959 c21 (Nat.le_of_ble_eq_true rfl) (Nat.le_of_ble_eq_true rfl) rfl (Nat.le_of_ble_eq_true rfl) (Nat.le_of_ble_eq_true rfl) (Nat.le_of_ble_eq_true rfl) dX11_hope_44 rfl (fun v h20 hq => ?_)
          obtain ⟨rfl, hw⟩ := hq
          refine G.cse (cs' := (0, 0)) rfl ?_
          show GZ _ _ _ _ _ _ _ 47 _ [] _ _
          refine G_aload_n dX11_hope_47 rfl ?_
          obtain ⟨c22, hw⟩ := wp_ck hw
          refine G_getI fl_X11_hopeRead w_1454 dX11_hope_48 c22 ?_
          refine G_i2l dX11_hope_51 ?_
          refine G_ldc2 (v := (1000000 : Int64)) dX11_hope_52 w_1967 ?_
          refine G_lmul dX11_hope_55 ?_
          refine G_aload_n dX11_hope_56 rfl ?_
          refine G_getI fl_X11_hopeAll w_1455 dX11_hope_57 c22 ?_
          refine G_i2l dX11_hope_60 ?_
          obtain ⟨c23, hw⟩ := wp_ck hw
          refine G_ldiv dX11_hope_61 c23 ?_
          refine G_l2i dX11_hope_62 ?_
          exact G_ireturn rfl dX11_hope_63 ⟨_, rfl, wp_ret hw⟩
        · have hw := hw.1 c18
          refine G_iconst (v := (-1 : Int32)) dX11_hope_38 (by decide) ?_
          exact G_ireturn rfl dX11_hope_39 ⟨_, rfl, wp_ret hw⟩
set_option maxHeartbeats 4000000 in
set_option maxRecDepth 100000 in
theorem s_X11_read {Γ : GX} (hs : SF Γ) {N : Nat} (l0 : Nat) (l1 : Int32) (l2 : Int32) (l3 : Int32) (h : PH) (Q : Int32 → PH → Prop) (hw : wp (f_X11_read N l0 l1 l2 l3 h) Q) : Spec Γ yX11_read cX11_read 4 (some .boolean) (2, 0, 0) [.ref l0, .int l1, .int l2, .int l3] h (q_i Q) := by
  refine Spec.of (by decide) (Nat.le_of_ble_eq_true rfl) [some (.ref l0), some (.int l1), some (.int l2), some (.int l3)] rfl ?_
  unfold f_X11_read at hw
  refine G_aload_n dX11_read_0 rfl ?_
  refine G_iconst (v := (0 : Int32)) dX11_read_1 (by decide) ?_
  obtain ⟨c1, hw⟩ := wp_ck hw
  refine G_putI fl_X11_thrown w_1393 dX11_read_2 c1 ?_
  refine G.nmh fun h2 eh2 => ?_
  have hw := wp_bd hw h2 eh2
  refine G_iload_n dX11_read_5 rfl ?_
  have hw := wp_if hw
  refine G_if_lt (tgt := 54) dX11_read_6 rfl (fun c3 => ?_) (fun c3 => ?_)
  · have hw := hw.1 c3
    refine G_iconst (v := (0 : Int32)) dX11_read_54 (by decide) ?_
    exact G_zreturn rfl dX11_read_55 rfl ⟨_, rfl, wp_ret hw⟩
  · have hw := hw.2 c3
    refine G_iload_n dX11_read_9 rfl ?_
    refine G_aload_n dX11_read_10 rfl ?_
    obtain ⟨c4, hw⟩ := wp_ck hw
    refine G_getR fl_X11_valley w_1403 dX11_read_11 c4 ?_
    obtain ⟨a5, ea5, hw⟩ := wp_rq hw
    refine G.sure ea5 ?_
    refine G_iconst (v := (4 : Int32)) dX11_read_14 (by decide) ?_
    obtain ⟨c6, hw⟩ := wp_ck hw
    obtain ⟨c7, hw⟩ := wp_ck hw
    refine G_ialoadK (k := 4) dX11_read_15 c6 (by decide) rfl c7 ?_
    have hw := wp_if hw
    refine G_icmp_ge (tgt := 54) dX11_read_16 rfl (fun c8 => ?_) (fun c8 => ?_)
    · have hw := hw.1 c8
      refine G_iconst (v := (0 : Int32)) dX11_read_54 (by decide) ?_
      exact G_zreturn rfl dX11_read_55 rfl ⟨_, rfl, wp_ret hw⟩
    · have hw := hw.2 c8
      refine G_aload_n dX11_read_19 rfl ?_
      refine G_iload_n dX11_read_20 rfl ?_
      refine G_callV (As := [.int l2]) (s_X11_isFlue hs l0 l2 h2 _ (wp_cl hw)) ca_X11_isFlue w_1794 w_78 (ci := 10) rfl (by decide) w_1792 c4 (Nat.le_of_ble_eq_true rfl) (Nat.le_of_ble_eq_true rfl) rfl (Nat.le_of_ble_eq_true rfl) (Nat.le_of_ble_eq_true rfl) (Nat.le_of_ble_eq_true rfl) dX11_read_21 rfl (fun v h10 hq => ?_)
      obtain ⟨r9, rfl, hw⟩ := hq
      refine G.cse (cs' := (0, 0)) rfl ?_
      show GZ _ _ _ _ _ _ _ 24 _ (.int r9 :: []) _ _
      have hw := wp_if hw
      refine G_if_eq (tgt := 54) dX11_read_24 rfl (fun c11 => ?_) (fun c11 => ?_)
      · have hw := hw.1 c11
        refine G_iconst (v := (0 : Int32)) dX11_read_54 (by decide) ?_
        exact G_zreturn rfl dX11_read_55 rfl ⟨_, rfl, wp_ret hw⟩
      · have hw := hw.2 c11
        refine G_iload_n dX11_read_27 rfl ?_
        refine G_iconst (v := (-1 : Int32)) dX11_read_28 (by decide) ?_
        refine G_aload_n dX11_read_29 rfl ?_
        obtain ⟨c12, hw⟩ := wp_ck hw
        refine G_getR fl_X11_valley w_1403 dX11_read_30 c12 ?_
        obtain ⟨a13, ea13, hw⟩ := wp_rq hw
        refine G.sure ea13 ?_
        refine G_iconst (v := (3 : Int32)) dX11_read_33 (by decide) ?_
        obtain ⟨c14, hw⟩ := wp_ck hw
        obtain ⟨c15, hw⟩ := wp_ck hw
        refine G_ialoadK (k := 3) dX11_read_34 c14 (by decide) rfl c15 ?_
        refine G_iconst (v := (1 : Int32)) dX11_read_35 (by decide) ?_
        refine G_isub dX11_read_36 ?_
        refine G_callS (As := [.int l3, .int (-1 : Int32), .int ((hI h10 a13 3) - (1 : Int32))]) (s_X11_within hs l3 (-1 : Int32) ((hI h10 a13 3) - (1 : Int32)) h10 _ (wp_cl hw)) ca_X11_within w_1686 w_1685 (Nat.le_of_ble_eq_true rfl) (Nat.le_of_ble_eq_true rfl) rfl (Nat.le_of_ble_eq_true rfl) (Nat.le_of_ble_eq_true rfl) (Nat.le_of_ble_eq_true rfl) dX11_read_37 rfl (fun v h17 hq => ?_)
        obtain ⟨r16, rfl, hw⟩ := hq
        refine G.cse (cs' := (0, 0)) rfl ?_
        show GZ _ _ _ _ _ _ _ 40 _ (.int r16 :: []) _ _
        have hw := wp_if hw
        refine G_if_eq (tgt := 54) dX11_read_40 rfl (fun c18 => ?_) (fun c18 => ?_)
        · have hw := hw.1 c18
          refine G_iconst (v := (0 : Int32)) dX11_read_54 (by decide) ?_
          exact G_zreturn rfl dX11_read_55 rfl ⟨_, rfl, wp_ret hw⟩
        · have hw := hw.2 c18
          refine G_aload_n dX11_read_43 rfl ?_
          obtain ⟨c19, hw⟩ := wp_ck hw
          refine G_getR fl_X11_seens w_1438 dX11_read_44 c19 ?_
          obtain ⟨a20, ea20, hw⟩ := wp_rq hw
          refine G.sure ea20 ?_
          refine G_iconst (v := (0 : Int32)) dX11_read_47 (by decide) ?_
          obtain ⟨c21, hw⟩ := wp_ck hw
          obtain ⟨c22, hw⟩ := wp_ck hw
          refine G_ialoadK (k := 0) dX11_read_48 c21 (by decide) rfl c22 ?_
          refine G_bipush (v := (8 : Int32)) dX11_read_49 (by decide) ?_
          have hw := wp_if hw
          refine G_icmp_ne (tgt := 56) dX11_read_51 rfl (fun c23 => ?_) (fun c23 => ?_)
          · have hw := hw.2 c23
            refine G_aload_n dX11_read_56 rfl ?_
            refine G_getR fl_X11_seenWho w_1439 dX11_read_57 c19 ?_
            obtain ⟨a24, ea24, hw⟩ := wp_rq hw
            refine G.sure ea24 ?_
            refine G_aload_n dX11_read_60 rfl ?_
            refine G_getR fl_X11_seens w_1438 dX11_read_61 c19 ?_
            obtain ⟨a25, ea25, hw⟩ := wp_rq hw
            refine G.sure ea25 ?_
            refine G_iconst (v := (0 : Int32)) dX11_read_64 (by decide) ?_
            obtain ⟨c26, hw⟩ := wp_ck hw
            obtain ⟨c27, hw⟩ := wp_ck hw
            refine G_ialoadK (k := 0) dX11_read_65 c26 (by decide) rfl c27 ?_
            refine G_iload_n dX11_read_66 rfl ?_
            obtain ⟨c28, hw⟩ := wp_ck hw
            obtain ⟨c29, hw⟩ := wp_ck hw
            refine G_iastore dX11_read_67 c28 c29 ?_
            refine G.nmh fun h30 eh30 => ?_
            have hw := wp_bd hw h30 eh30
            refine G_aload_n dX11_read_68 rfl ?_
            obtain ⟨c31, hw⟩ := wp_ck hw
            refine G_getR fl_X11_seenFlue w_1440 dX11_read_69 c31 ?_
            obtain ⟨a32, ea32, hw⟩ := wp_rq hw
            refine G.sure ea32 ?_
            refine G_aload_n dX11_read_72 rfl ?_
            refine G_getR fl_X11_seens w_1438 dX11_read_73 c31 ?_
            obtain ⟨a33, ea33, hw⟩ := wp_rq hw
            refine G.sure ea33 ?_
            refine G_iconst (v := (0 : Int32)) dX11_read_76 (by decide) ?_
            obtain ⟨c34, hw⟩ := wp_ck hw
            obtain ⟨c35, hw⟩ := wp_ck hw
            refine G_ialoadK (k := 0) dX11_read_77 c34 (by decide) rfl c35 ?_
            refine G_iload_n dX11_read_78 rfl ?_
            obtain ⟨c36, hw⟩ := wp_ck hw
            obtain ⟨c37, hw⟩ := wp_ck hw
            refine G_iastore dX11_read_79 c36 c37 ?_
            refine G.nmh fun h38 eh38 => ?_
            have hw := wp_bd hw h38 eh38
            refine G_aload_n dX11_read_80 rfl ?_
            obtain ⟨c39, hw⟩ := wp_ck hw
            refine G_getR fl_X11_seenSign w_1441 dX11_read_81 c39 ?_
            obtain ⟨a40, ea40, hw⟩ := wp_rq hw
            refine G.sure ea40 ?_
            refine G_aload_n dX11_read_84 rfl ?_
            refine G_getR fl_X11_seens w_1438 dX11_read_85 c39 ?_
            obtain ⟨a41, ea41, hw⟩ := wp_rq hw
            refine G.sure ea41 ?_
            refine G_iconst (v := (0 : Int32)) dX11_read_88 (by decide) ?_
            obtain ⟨c42, hw⟩ := wp_ck hw
            obtain ⟨c43, hw⟩ := wp_ck hw
            refine G_ialoadK (k := 0) dX11_read_89 c42 (by decide) rfl c43 ?_
            refine G_iload_n dX11_read_90 rfl ?_
            obtain ⟨c44, hw⟩ := wp_ck hw
            obtain ⟨c45, hw⟩ := wp_ck hw
            refine G_iastore dX11_read_91 c44 c45 ?_
            refine G.nmh fun h46 eh46 => ?_
            have hw := wp_bd hw h46 eh46
            refine G_aload_n dX11_read_92 rfl ?_
            obtain ⟨c47, hw⟩ := wp_ck hw
            refine G_getR fl_X11_seens w_1438 dX11_read_93 c47 ?_
            obtain ⟨a48, ea48, hw⟩ := wp_rq hw
            refine G.sure ea48 ?_
            refine G_iconst (v := (0 : Int32)) dX11_read_96 (by decide) ?_
            refine G_dup2 dX11_read_97 rfl rfl ?_
            obtain ⟨c49, hw⟩ := wp_ck hw
            obtain ⟨c50, hw⟩ := wp_ck hw
            refine G_ialoadK (k := 0) dX11_read_98 c49 (by decide) rfl c50 ?_
            refine G_iconst (v := (1 : Int32)) dX11_read_99 (by decide) ?_
            refine G_iadd dX11_read_100 ?_
            refine G_iastoreK (k := 0) dX11_read_101 c49 (by decide) rfl c50 ?_
            refine G.nmh fun h51 eh51 => ?_
            have hw := wp_bd hw h51 eh51
            refine G_iconst (v := (1 : Int32)) dX11_read_102 (by decide) ?_
            exact G_zreturn rfl dX11_read_103 rfl ⟨_, rfl, wp_ret hw⟩
          · have hw := hw.1 c23
            refine G_iconst (v := (0 : Int32)) dX11_read_54 (by decide) ?_
            exact G_zreturn rfl dX11_read_55 rfl ⟨_, rfl, wp_ret hw⟩
set_option maxHeartbeats 4000000 in
set_option maxRecDepth 100000 in
theorem s_X11_isWithin {Γ : GX} (hs : SF Γ) {N : Nat} (l0 : Nat) (l1 : Int32) (l2 : Int32) (l3 : Int32) (h : PH) (Q : Int32 → PH → Prop) (hw : wp (f_X11_isWithin N l0 l1 l2 l3 h) Q) : Spec Γ yX11_isWithin cX11_isWithin 4 (some .boolean) (2, 0, 0) [.ref l0, .int l1, .int l2, .int l3] h (q_i Q) := by
  refine Spec.of (by decide) (Nat.le_of_ble_eq_true rfl) [some (.ref l0), some (.int l1), some (.int l2), some (.int l3)] rfl ?_
  unfold f_X11_isWithin at hw
  refine G_iload_n dX11_isWithin_0 rfl ?_
  refine G_aload_n dX11_isWithin_1 rfl ?_
  obtain ⟨c1, hw⟩ := wp_ck hw
  refine G_getR fl_X11_signs w_1410 dX11_isWithin_2 c1 ?_
  obtain ⟨a2, ea2, hw⟩ := wp_rq hw
  refine G.sure ea2 ?_
  refine G_iconst (v := (4 : Int32)) dX11_isWithin_5 (by decide) ?_
  refine G_iload_n dX11_isWithin_6 rfl ?_
  refine G_imul dX11_isWithin_7 ?_
  refine G_iconst (v := (2 : Int32)) dX11_isWithin_8 (by decide) ?_
  refine G_iload_n dX11_isWithin_9 rfl ?_
  refine G_imul dX11_isWithin_10 ?_
  refine G_iadd dX11_isWithin_11 ?_
  obtain ⟨c3, hw⟩ := wp_ck hw
  obtain ⟨c4, hw⟩ := wp_ck hw
  refine G_iaload dX11_isWithin_12 c3 c4 ?_
  refine G_aload_n dX11_isWithin_13 rfl ?_
  refine G_getR fl_X11_signs w_1410 dX11_isWithin_14 c1 ?_
  obtain ⟨a5, ea5, hw⟩ := wp_rq hw
  refine G.sure ea5 ?_
  refine G_iconst (v := (4 : Int32)) dX11_isWithin_17 (by decide) ?_
  refine G_iload_n dX11_isWithin_18 rfl ?_
  refine G_imul dX11_isWithin_19 ?_
  refine G_iconst (v := (2 : Int32)) dX11_isWithin_20 (by decide) ?_
  refine G_iload_n dX11_isWithin_21 rfl ?_
  refine G_imul dX11_isWithin_22 ?_
  refine G_iadd dX11_isWithin_23 ?_
  refine G_iconst (v := (1 : Int32)) dX11_isWithin_24 (by decide) ?_
  refine G_iadd dX11_isWithin_25 ?_
  obtain ⟨c6, hw⟩ := wp_ck hw
  obtain ⟨c7, hw⟩ := wp_ck hw
  refine G_iaload dX11_isWithin_26 c6 c7 ?_
  refine G_callS (As := [.int l2, .int (hI h a2 (ix (((4 : Int32) * l1) + ((2 : Int32) * l3)))), .int (hI h a5 (ix ((((4 : Int32) * l1) + ((2 : Int32) * l3)) + (1 : Int32))))]) (s_X11_within hs l2 (hI h a2 (ix (((4 : Int32) * l1) + ((2 : Int32) * l3)))) (hI h a5 (ix ((((4 : Int32) * l1) + ((2 : Int32) * l3)) + (1 : Int32)))) h _ (wp_cl hw)) ca_X11_within w_1686 w_1685 (Nat.le_of_ble_eq_true rfl) (Nat.le_of_ble_eq_true rfl) rfl (Nat.le_of_ble_eq_true rfl) (Nat.le_of_ble_eq_true rfl) (Nat.le_of_ble_eq_true rfl) dX11_isWithin_27 rfl (fun v h9 hq => ?_)
  obtain ⟨r8, rfl, hw⟩ := hq
  refine G.cse (cs' := (0, 0)) rfl ?_
  show GZ _ _ _ _ _ _ _ 30 _ (.int r8 :: []) _ _
  obtain ⟨c10, hw⟩ := wp_ck hw
  exact G_zreturn rfl dX11_isWithin_30 (g_nb c10) ⟨_, rfl, wp_ret hw⟩
set_option maxHeartbeats 4000000 in
set_option maxRecDepth 100000 in
theorem f_X11_isAsSeen_79_bok {Γ : GX} (hs : SF Γ) {N : Nat} {K_79 : Nat → Int32 → Int32 → Int32 → PH → Option (Int32 × PH)} (hK_79 : ∀ (l0 : Nat) (l2 : Int32) (l3 : Int32) (l4 : Int32) (h : PH) (Q : Int32 → PH → Prop), wp (K_79 l0 l2 l3 l4 h) Q → G Γ yX11_isAsSeen cX11_isAsSeen 5 (some .boolean) (9, 0, 0) 79 [some (.ref l0), none, some (.int l2), some (.int l3), some (.int l4)] [] h (0, 0) (q_i Q)) (l0 : Nat) (l2 : Int32) (l3 : Int32) (l4 : Int32) (h : PH) (Q : Int32 → PH → Prop) (hw : wp (f_X11_isAsSeen_79_b N K_79 l0 l2 l3 l4 h) Q) : G Γ yX11_isAsSeen cX11_isAsSeen 5 (some .boolean) (9, 0, 0) 79 [some (.ref l0), none, some (.int l2), some (.int l3), some (.int l4)] [] h (0, 0) (q_i Q) := by
  unfold f_X11_isAsSeen_79_b at hw
  refine G_iload dX11_isAsSeen_79 rfl ?_
  refine G_aload_n dX11_isAsSeen_81 rfl ?_
  obtain ⟨c1, hw⟩ := wp_ck hw
  refine G_getR fl_X11_valley w_1403 dX11_isAsSeen_82 c1 ?_
  obtain ⟨a2, ea2, hw⟩ := wp_rq hw
  refine G.sure ea2 ?_
  refine G_iconst (v := (3 : Int32)) dX11_isAsSeen_85 (by decide) ?_
  obtain ⟨c3, hw⟩ := wp_ck hw
  obtain ⟨c4, hw⟩ := wp_ck hw
  refine G_ialoadK (k := 3) dX11_isAsSeen_86 c3 (by decide) rfl c4 ?_
  have hw := wp_if hw
  refine G_icmp_ge (tgt := 109) dX11_isAsSeen_87 rfl (fun c5 => ?_) (fun c5 => ?_)
  · have hw := hw.1 c5
    refine G_iconst (v := (1 : Int32)) dX11_isAsSeen_109 (by decide) ?_
    exact G_zreturn rfl dX11_isAsSeen_110 rfl ⟨_, rfl, wp_ret hw⟩
  · have hw := hw.2 c5
    refine G_aload_n dX11_isAsSeen_90 rfl ?_
    refine G_iload dX11_isAsSeen_91 rfl ?_
    refine G_iload_n dX11_isAsSeen_93 rfl ?_
    refine G_iload_n dX11_isAsSeen_94 rfl ?_
    refine G_callV (As := [.int l4, .int l3, .int l2]) (s_X11_isWithin hs l0 l4 l3 l2 h _ (wp_cl hw)) ca_X11_isWithin w_1994 w_116 (ci := 10) rfl (by decide) w_1992 c1 (Nat.le_of_ble_eq_true rfl) (Nat.le_of_ble_eq_true rfl) rfl (Nat.le_of_ble_eq_true rfl) (Nat.le_of_ble_eq_true rfl) (Nat.le_of_ble_eq_true rfl) dX11_isAsSeen_95 rfl (fun v h7 hq => ?_)
    obtain ⟨r6, rfl, hw⟩ := hq
    refine G.cse (cs' := (0, 0)) rfl ?_
    show GZ _ _ _ _ _ _ _ 98 _ (.int r6 :: []) _ _
    have hw := wp_if hw
    refine G_if_eq (tgt := 103) dX11_isAsSeen_98 rfl (fun c8 => ?_) (fun c8 => ?_)
    · have hw := hw.1 c8
      obtain ⟨v9, ev9⟩ : ∃ z : Int32, z = l4 + (1 : Int32) := ⟨_, rfl⟩
      have hw := wp_bd hw v9 ev9
      refine G_iinc (v := v9) (lv' := [some (.ref l0), none, some (.int l2), some (.int l3), some (.int v9)]) dX11_isAsSeen_103 rfl (by rw [ev9]; rfl) (Nat.le_of_ble_eq_true rfl) rfl ?_
      refine G_goto (tgt := 79) dX11_isAsSeen_106 rfl ?_
      refine G.less [some (.ref l0), none, some (.int l2), some (.int l3), some (.int v9)] ⟨rfl, ⟨rfl, ⟨rfl, ⟨rfl, trivial⟩⟩⟩⟩ ?_
      exact hK_79 _ _ _ _ h7 Q hw
    · have hw := hw.2 c8
      refine G_iconst (v := (0 : Int32)) dX11_isAsSeen_101 (by decide) ?_
      exact G_zreturn rfl dX11_isAsSeen_102 rfl ⟨_, rfl, wp_ret hw⟩
theorem f_X11_isAsSeen_79_ok {Γ : GX} (hs : SF Γ) {N : Nat} : ∀ (n : Nat) (l0 : Nat) (l2 : Int32) (l3 : Int32) (l4 : Int32) (h : PH) (Q : Int32 → PH → Prop), wp (f_X11_isAsSeen_79 N n l0 l2 l3 l4 h) Q → G Γ yX11_isAsSeen cX11_isAsSeen 5 (some .boolean) (9, 0, 0) 79 [some (.ref l0), none, some (.int l2), some (.int l3), some (.int l4)] [] h (0, 0) (q_i Q)
  | 0, _, _, _, _, _, Q, hw => (wp_no hw).elim
  | n + 1, l0, l2, l3, l4, h, Q, hw => f_X11_isAsSeen_79_bok (N := N) hs (f_X11_isAsSeen_79_ok (N := N) hs n) l0 l2 l3 l4 h Q hw
set_option maxHeartbeats 4000000 in
set_option maxRecDepth 100000 in
theorem s_X11_isAsSeen {Γ : GX} (hs : SF Γ) {N : Nat} (l0 : Nat) (l1 : Int32) (h : PH) (Q : Int32 → PH → Prop) (hw : wp (f_X11_isAsSeen N l0 l1 h) Q) : Spec Γ yX11_isAsSeen cX11_isAsSeen 5 (some .boolean) (9, 0, 0) [.ref l0, .int l1] h (q_i Q) := by
  refine Spec.of (by decide) (Nat.le_of_ble_eq_true rfl) [some (.ref l0), some (.int l1), none, none, none] rfl ?_
  unfold f_X11_isAsSeen at hw
  refine G_aload_n dX11_isAsSeen_0 rfl ?_
  obtain ⟨c1, hw⟩ := wp_ck hw
  refine G_getR fl_X11_sight w_1411 dX11_isAsSeen_1 c1 ?_
  obtain ⟨a2, ea2, hw⟩ := wp_rq hw
  refine G.sure ea2 ?_
  refine G_aload_n dX11_isAsSeen_4 rfl ?_
  refine G_getR fl_X11_seenWho w_1439 dX11_isAsSeen_5 c1 ?_
  obtain ⟨a3, ea3, hw⟩ := wp_rq hw
  refine G.sure ea3 ?_
  refine G_iload_n dX11_isAsSeen_8 rfl ?_
  obtain ⟨c4, hw⟩ := wp_ck hw
  obtain ⟨c5, hw⟩ := wp_ck hw
  refine G_iaload dX11_isAsSeen_9 c4 c5 ?_
  obtain ⟨c6, hw⟩ := wp_ck hw
  obtain ⟨c7, hw⟩ := wp_ck hw
  refine G_iaload dX11_isAsSeen_10 c6 c7 ?_
  refine G.topi fun v8 ev8 => ?_
  have hw := wp_bd hw v8 ev8
  refine G_istore_n (lv' := [some (.ref l0), some (.int l1), some (.int v8), none, none]) dX11_isAsSeen_11 (Nat.le_of_ble_eq_true rfl) rfl ?_
  refine G_iload_n dX11_isAsSeen_12 rfl ?_
  refine G_iconst (v := (2 : Int32)) dX11_isAsSeen_13 (by decide) ?_
  have hw := wp_if hw
  refine G_icmp_ne (tgt := 42) dX11_isAsSeen_14 rfl (fun c9 => ?_) (fun c9 => ?_)
  · have hw := hw.2 c9
    refine G_aload_n dX11_isAsSeen_42 rfl ?_
    refine G_aload_n dX11_isAsSeen_43 rfl ?_
    refine G_getR fl_X11_seenFlue w_1440 dX11_isAsSeen_44 c1 ?_
    obtain ⟨a10, ea10, hw⟩ := wp_rq hw
    refine G.sure ea10 ?_
    refine G_iload_n dX11_isAsSeen_47 rfl ?_
    obtain ⟨c11, hw⟩ := wp_ck hw
    obtain ⟨c12, hw⟩ := wp_ck hw
    refine G_iaload dX11_isAsSeen_48 c11 c12 ?_
    refine G_iload_n dX11_isAsSeen_49 rfl ?_
    refine G_callV (As := [.int (hI h a10 (ix l1)), .int v8]) (s_X11_smokeBy hs l0 (hI h a10 (ix l1)) v8 h _ (wp_cl hw)) ca_X11_smokeBy w_1933 w_105 (ci := 10) rfl (by decide) w_1931 c1 (Nat.le_of_ble_eq_true rfl) (Nat.le_of_ble_eq_true rfl) rfl (Nat.le_of_ble_eq_true rfl) (Nat.le_of_ble_eq_true rfl) (Nat.le_of_ble_eq_true rfl) dX11_isAsSeen_50 rfl (fun v h14 hq => ?_)
    obtain ⟨r13, rfl, hw⟩ := hq
    refine G.cse (cs' := (0, 0)) rfl ?_
    show GZ _ _ _ _ _ _ _ 53 _ (.int r13 :: []) _ _
    refine G_istore_n (lv' := [some (.ref l0), some (.int l1), some (.int v8), some (.int r13), none]) dX11_isAsSeen_53 (Nat.le_of_ble_eq_true rfl) rfl ?_
    refine G_aload_n dX11_isAsSeen_54 rfl ?_
    obtain ⟨c15, hw⟩ := wp_ck hw
    refine G_getR fl_X11_seenSign w_1441 dX11_isAsSeen_55 c15 ?_
    obtain ⟨a16, ea16, hw⟩ := wp_rq hw
    refine G.sure ea16 ?_
    refine G_iload_n dX11_isAsSeen_58 rfl ?_
    obtain ⟨c17, hw⟩ := wp_ck hw
    obtain ⟨c18, hw⟩ := wp_ck hw
    refine G_iaload dX11_isAsSeen_59 c17 c18 ?_
    have hw := wp_if hw
    refine G_if_lt (tgt := 76) dX11_isAsSeen_60 rfl (fun c19 => ?_) (fun c19 => ?_)
    · have hw := hw.1 c19
      refine G_iconst (v := (0 : Int32)) dX11_isAsSeen_76 (by decide) ?_
      refine G_istore (lv' := [some (.ref l0), some (.int l1), some (.int v8), some (.int r13), some (.int (0 : Int32))]) dX11_isAsSeen_77 (Nat.le_of_ble_eq_true rfl) rfl ?_
      refine G.less [some (.ref l0), none, some (.int v8), some (.int r13), some (.int (0 : Int32))] ⟨rfl, ⟨rfl, ⟨rfl, ⟨rfl, trivial⟩⟩⟩⟩ ?_
      exact f_X11_isAsSeen_79_ok hs N _ _ _ _ h14 Q hw
    · have hw := hw.2 c19
      refine G_aload_n dX11_isAsSeen_63 rfl ?_
      refine G_aload_n dX11_isAsSeen_64 rfl ?_
      refine G_getR fl_X11_seenSign w_1441 dX11_isAsSeen_65 c15 ?_
      obtain ⟨a20, ea20, hw⟩ := wp_rq hw
      refine G.sure ea20 ?_
      refine G_iload_n dX11_isAsSeen_68 rfl ?_
      obtain ⟨c21, hw⟩ := wp_ck hw
      obtain ⟨c22, hw⟩ := wp_ck hw
      refine G_iaload dX11_isAsSeen_69 c21 c22 ?_
      refine G_iload_n dX11_isAsSeen_70 rfl ?_
      refine G_iload_n dX11_isAsSeen_71 rfl ?_
      refine G_callV (As := [.int (hI h14 a20 (ix l1)), .int r13, .int v8]) (s_X11_isWithin hs l0 (hI h14 a20 (ix l1)) r13 v8 h14 _ (wp_cl hw)) ca_X11_isWithin w_1994 w_116 (ci := 10) rfl (by decide) w_1992 c15 (Nat.le_of_ble_eq_true rfl) (Nat.le_of_ble_eq_true rfl) rfl (Nat.le_of_ble_eq_true rfl) (Nat.le_of_ble_eq_true rfl) (Nat.le_of_ble_eq_true rfl) dX11_isAsSeen_72 rfl (fun v h24 hq => ?_)
      obtain ⟨r23, rfl, hw⟩ := hq
      refine G.cse (cs' := (0, 0)) rfl ?_
      show GZ _ _ _ _ _ _ _ 75 _ (.int r23 :: []) _ _
      obtain ⟨c25, hw⟩ := wp_ck hw
      exact G_zreturn rfl dX11_isAsSeen_75 (g_nb c25) ⟨_, rfl, wp_ret hw⟩
  · have hw := hw.1 c9
    refine G_aload_n dX11_isAsSeen_17 rfl ?_
    refine G_aload_n dX11_isAsSeen_18 rfl ?_
    refine G_getR fl_X11_seenFlue w_1440 dX11_isAsSeen_19 c1 ?_
    obtain ⟨a26, ea26, hw⟩ := wp_rq hw
    refine G.sure ea26 ?_
    refine G_iload_n dX11_isAsSeen_22 rfl ?_
    obtain ⟨c27, hw⟩ := wp_ck hw
    obtain ⟨c28, hw⟩ := wp_ck hw
    refine G_iaload dX11_isAsSeen_23 c27 c28 ?_
    refine G_callV (As := [.int (hI h a26 (ix l1))]) (s_X11_signBy hs l0 (hI h a26 (ix l1)) h _ (wp_cl hw)) ca_X11_signBy w_1929 w_104 (ci := 10) rfl (by decide) w_1927 c1 (Nat.le_of_ble_eq_true rfl) (Nat.le_of_ble_eq_true rfl) rfl (Nat.le_of_ble_eq_true rfl) (Nat.le_of_ble_eq_true rfl) (Nat.le_of_ble_eq_true rfl) dX11_isAsSeen_24 rfl (fun v h30 hq => ?_)
    obtain ⟨r29, rfl, hw⟩ := hq
    refine G.cse (cs' := (0, 0)) rfl ?_
    show GZ _ _ _ _ _ _ _ 27 _ (.int r29 :: []) _ _
    refine G_aload_n dX11_isAsSeen_27 rfl ?_
    obtain ⟨c31, hw⟩ := wp_ck hw
    refine G_getR fl_X11_seenSign w_1441 dX11_isAsSeen_28 c31 ?_
    obtain ⟨a32, ea32, hw⟩ := wp_rq hw
    refine G.sure ea32 ?_
    refine G_iload_n dX11_isAsSeen_31 rfl ?_
    obtain ⟨c33, hw⟩ := wp_ck hw
    obtain ⟨c34, hw⟩ := wp_ck hw
    refine G_iaload dX11_isAsSeen_32 c33 c34 ?_
    have hw := wp_if hw
    refine G_icmp_ne (tgt := 40) dX11_isAsSeen_33 rfl (fun c35 => ?_) (fun c35 => ?_)
    · have hw := hw.2 c35
      refine G_iconst (v := (0 : Int32)) dX11_isAsSeen_40 (by decide) ?_
      exact G_zreturn rfl dX11_isAsSeen_41 rfl ⟨_, rfl, wp_ret hw⟩
    · have hw := hw.1 c35
      refine G_iconst (v := (1 : Int32)) dX11_isAsSeen_36 (by decide) ?_
      refine G_goto (tgt := 41) dX11_isAsSeen_37 rfl ?_
      exact G_zreturn rfl dX11_isAsSeen_41 rfl ⟨_, rfl, wp_ret hw⟩
set_option maxHeartbeats 4000000 in
set_option maxRecDepth 100000 in
theorem f_X11_isAllSeen_2_bok {Γ : GX} (hs : SF Γ) {N : Nat} {K_2 : Nat → Int32 → PH → Option (Int32 × PH)} (hK_2 : ∀ (l0 : Nat) (l1 : Int32) (h : PH) (Q : Int32 → PH → Prop), wp (K_2 l0 l1 h) Q → G Γ yX11_isAllSeen cX11_isAllSeen 2 (some .boolean) (10, 0, 0) 2 [some (.ref l0), some (.int l1)] [] h (0, 0) (q_i Q)) (l0 : Nat) (l1 : Int32) (h : PH) (Q : Int32 → PH → Prop) (hw : wp (f_X11_isAllSeen_2_b N K_2 l0 l1 h) Q) : G Γ yX11_isAllSeen cX11_isAllSeen 2 (some .boolean) (10, 0, 0) 2 [some (.ref l0), some (.int l1)] [] h (0, 0) (q_i Q) := by
  unfold f_X11_isAllSeen_2_b at hw
  refine G_iload_n dX11_isAllSeen_2 rfl ?_
  refine G_aload_n dX11_isAllSeen_3 rfl ?_
  obtain ⟨c1, hw⟩ := wp_ck hw
  refine G_getR fl_X11_seens w_1438 dX11_isAllSeen_4 c1 ?_
  obtain ⟨a2, ea2, hw⟩ := wp_rq hw
  refine G.sure ea2 ?_
  refine G_iconst (v := (0 : Int32)) dX11_isAllSeen_7 (by decide) ?_
  obtain ⟨c3, hw⟩ := wp_ck hw
  obtain ⟨c4, hw⟩ := wp_ck hw
  refine G_ialoadK (k := 0) dX11_isAllSeen_8 c3 (by decide) rfl c4 ?_
  have hw := wp_if hw
  refine G_icmp_ge (tgt := 28) dX11_isAllSeen_9 rfl (fun c5 => ?_) (fun c5 => ?_)
  · have hw := hw.1 c5
    refine G_iconst (v := (1 : Int32)) dX11_isAllSeen_28 (by decide) ?_
    exact G_zreturn rfl dX11_isAllSeen_29 rfl ⟨_, rfl, wp_ret hw⟩
  · have hw := hw.2 c5
    refine G_aload_n dX11_isAllSeen_12 rfl ?_
    refine G_iload_n dX11_isAllSeen_13 rfl ?_
    refine G_callV (As := [.int l1]) (s_X11_isAsSeen hs l0 l1 h _ (wp_cl hw)) ca_X11_isAsSeen w_1990 w_115 (ci := 10) rfl (by decide) w_1988 c1 (Nat.le_of_ble_eq_true rfl) (Nat.le_of_ble_eq_true rfl) rfl (Nat.le_of_ble_eq_true rfl) (Nat.le_of_ble_eq_true rfl) (Nat.le_of_ble_eq_true rfl) dX11_isAllSeen_14 rfl (fun v h7 hq => ?_)
    obtain ⟨r6, rfl, hw⟩ := hq
    refine G.cse (cs' := (0, 0)) rfl ?_
    show GZ _ _ _ _ _ _ _ 17 _ (.int r6 :: []) _ _
    have hw := wp_if hw
    refine G_if_ne (tgt := 22) dX11_isAllSeen_17 rfl (fun c8 => ?_) (fun c8 => ?_)
    · have hw := hw.2 c8
      obtain ⟨v9, ev9⟩ : ∃ z : Int32, z = l1 + (1 : Int32) := ⟨_, rfl⟩
      have hw := wp_bd hw v9 ev9
      refine G_iinc (v := v9) (lv' := [some (.ref l0), some (.int v9)]) dX11_isAllSeen_22 rfl (by rw [ev9]; rfl) (Nat.le_of_ble_eq_true rfl) rfl ?_
      refine G_goto (tgt := 2) dX11_isAllSeen_25 rfl ?_
      refine G.less [some (.ref l0), some (.int v9)] ⟨rfl, ⟨rfl, trivial⟩⟩ ?_
      exact hK_2 _ _ h7 Q hw
    · have hw := hw.1 c8
      refine G_iconst (v := (0 : Int32)) dX11_isAllSeen_20 (by decide) ?_
      exact G_zreturn rfl dX11_isAllSeen_21 rfl ⟨_, rfl, wp_ret hw⟩
theorem f_X11_isAllSeen_2_ok {Γ : GX} (hs : SF Γ) {N : Nat} : ∀ (n : Nat) (l0 : Nat) (l1 : Int32) (h : PH) (Q : Int32 → PH → Prop), wp (f_X11_isAllSeen_2 N n l0 l1 h) Q → G Γ yX11_isAllSeen cX11_isAllSeen 2 (some .boolean) (10, 0, 0) 2 [some (.ref l0), some (.int l1)] [] h (0, 0) (q_i Q)
  | 0, _, _, _, Q, hw => (wp_no hw).elim
  | n + 1, l0, l1, h, Q, hw => f_X11_isAllSeen_2_bok (N := N) hs (f_X11_isAllSeen_2_ok (N := N) hs n) l0 l1 h Q hw
set_option maxHeartbeats 4000000 in
set_option maxRecDepth 100000 in
theorem s_X11_isAllSeen {Γ : GX} (hs : SF Γ) {N : Nat} (l0 : Nat) (h : PH) (Q : Int32 → PH → Prop) (hw : wp (f_X11_isAllSeen N l0 h) Q) : Spec Γ yX11_isAllSeen cX11_isAllSeen 2 (some .boolean) (10, 0, 0) [.ref l0] h (q_i Q) := by
  refine Spec.of (by decide) (Nat.le_of_ble_eq_true rfl) [some (.ref l0), none] rfl ?_
  unfold f_X11_isAllSeen at hw
  refine G_iconst (v := (0 : Int32)) dX11_isAllSeen_0 (by decide) ?_
  refine G_istore_n (lv' := [some (.ref l0), some (.int (0 : Int32))]) dX11_isAllSeen_1 (Nat.le_of_ble_eq_true rfl) rfl ?_
  refine G.less [some (.ref l0), some (.int (0 : Int32))] ⟨rfl, ⟨rfl, trivial⟩⟩ ?_
  exact f_X11_isAllSeen_2_ok hs N _ _ h Q hw
set_option maxHeartbeats 4000000 in
set_option maxRecDepth 100000 in
theorem s_X11_allHouses {Γ : GX} (hs : SF Γ) {N : Nat} (l0 : Nat) (h : PH) (Q : Int32 → PH → Prop) (hw : wp (f_X11_allHouses N l0 h) Q) : Spec Γ yX11_allHouses cX11_allHouses 1 (some .int) (1, 0, 0) [.ref l0] h (q_i Q) := by
  refine Spec.of (by decide) (Nat.le_of_ble_eq_true rfl) [some (.ref l0)] rfl ?_
  unfold f_X11_allHouses at hw
  refine G_iconst (v := (1 : Int32)) dX11_allHouses_0 (by decide) ?_
  refine G_aload_n dX11_allHouses_1 rfl ?_
  obtain ⟨c1, hw⟩ := wp_ck hw
  refine G_getR fl_X11_valley w_1403 dX11_allHouses_2 c1 ?_
  obtain ⟨a2, ea2, hw⟩ := wp_rq hw
  refine G.sure ea2 ?_
  refine G_iconst (v := (2 : Int32)) dX11_allHouses_5 (by decide) ?_
  obtain ⟨c3, hw⟩ := wp_ck hw
  obtain ⟨c4, hw⟩ := wp_ck hw
  refine G_ialoadK (k := 2) dX11_allHouses_6 c3 (by decide) rfl c4 ?_
  refine G_ishl dX11_allHouses_7 ?_
  refine G_iconst (v := (1 : Int32)) dX11_allHouses_8 (by decide) ?_
  refine G_isub dX11_allHouses_9 ?_
  exact G_ireturn rfl dX11_allHouses_10 ⟨_, rfl, wp_ret hw⟩
set_option maxHeartbeats 4000000 in
set_option maxRecDepth 100000 in
theorem f_X11_laysWays_77_ok {Γ : GX} (hs : SF Γ) {N : Nat} {K_18 : Nat → Int32 → Int32 → Int32 → PH → Option (Int32 × PH)} {K_32 : Nat → Int32 → Int32 → Int32 → PH → Option (Int32 × PH)} (hK_18 : ∀ (l0 : Nat) (l1 : Int32) (l2 : Int32) (l3 : Int32) (h : PH) (Q : Int32 → PH → Prop), wp (K_18 l0 l1 l2 l3 h) Q → G Γ yX11_laysWays cX11_laysWays 5 (some .int) (11, 0, 0) 18 [some (.ref l0), some (.int l1), some (.int l2), some (.int l3), none] [] h (0, 0) (q_i Q)) (hK_32 : ∀ (l0 : Nat) (l1 : Int32) (l2 : Int32) (l4 : Int32) (h : PH) (Q : Int32 → PH → Prop), wp (K_32 l0 l1 l2 l4 h) Q → G Γ yX11_laysWays cX11_laysWays 5 (some .int) (11, 0, 0) 32 [some (.ref l0), some (.int l1), some (.int l2), none, some (.int l4)] [] h (0, 0) (q_i Q)) (s0 : Int32) (s1 : Int32) (s2 : Nat) (l0 : Nat) (l1 : Int32) (l2 : Int32) (l4 : Int32) (h : PH) (Q : Int32 → PH → Prop) (hw : wp (f_X11_laysWays_77 N K_18 K_32 s0 s1 s2 l0 l1 l2 l4 h) Q) : G Γ yX11_laysWays cX11_laysWays 5 (some .int) (11, 0, 0) 77 [some (.ref l0), some (.int l1), some (.int l2), none, some (.int l4)] [.int s0, .int s1, .ref s2] h (0, 0) (q_i Q) := by
  unfold f_X11_laysWays_77 at hw
  obtain ⟨c1, hw⟩ := wp_ck hw
  obtain ⟨c2, hw⟩ := wp_ck hw
  refine G_iastore dX11_laysWays_77 c1 c2 ?_
  refine G.nmh fun h3 eh3 => ?_
  have hw := wp_bd hw h3 eh3
  obtain ⟨v4, ev4⟩ : ∃ z : Int32, z = l4 + (1 : Int32) := ⟨_, rfl⟩
  have hw := wp_bd hw v4 ev4
  refine G_iinc (v := v4) (lv' := [some (.ref l0), some (.int l1), some (.int l2), none, some (.int v4)]) dX11_laysWays_78 rfl (by rw [ev4]; rfl) (Nat.le_of_ble_eq_true rfl) rfl ?_
  refine G_goto (tgt := 32) dX11_laysWays_81 rfl ?_
  refine G.less [some (.ref l0), some (.int l1), some (.int l2), none, some (.int v4)] ⟨rfl, ⟨rfl, ⟨rfl, ⟨rfl, trivial⟩⟩⟩⟩ ?_
  exact hK_32 _ _ _ _ h3 Q hw
set_option maxHeartbeats 4000000 in
set_option maxRecDepth 100000 in
theorem f_X11_laysWays_65_ok {Γ : GX} (hs : SF Γ) {N : Nat} {K_18 : Nat → Int32 → Int32 → Int32 → PH → Option (Int32 × PH)} {K_32 : Nat → Int32 → Int32 → Int32 → PH → Option (Int32 × PH)} (hK_18 : ∀ (l0 : Nat) (l1 : Int32) (l2 : Int32) (l3 : Int32) (h : PH) (Q : Int32 → PH → Prop), wp (K_18 l0 l1 l2 l3 h) Q → G Γ yX11_laysWays cX11_laysWays 5 (some .int) (11, 0, 0) 18 [some (.ref l0), some (.int l1), some (.int l2), some (.int l3), none] [] h (0, 0) (q_i Q)) (hK_32 : ∀ (l0 : Nat) (l1 : Int32) (l2 : Int32) (l4 : Int32) (h : PH) (Q : Int32 → PH → Prop), wp (K_32 l0 l1 l2 l4 h) Q → G Γ yX11_laysWays cX11_laysWays 5 (some .int) (11, 0, 0) 32 [some (.ref l0), some (.int l1), some (.int l2), none, some (.int l4)] [] h (0, 0) (q_i Q)) (s0 : Int32) (s1 : Nat) (l0 : Nat) (l1 : Int32) (l2 : Int32) (l4 : Int32) (h : PH) (Q : Int32 → PH → Prop) (hw : wp (f_X11_laysWays_65 N K_18 K_32 s0 s1 l0 l1 l2 l4 h) Q) : G Γ yX11_laysWays cX11_laysWays 5 (some .int) (11, 0, 0) 65 [some (.ref l0), some (.int l1), some (.int l2), none, some (.int l4)] [.int s0, .ref s1] h (0, 0) (q_i Q) := by
  unfold f_X11_laysWays_65 at hw
  refine G_aload_n dX11_laysWays_65 rfl ?_
  obtain ⟨c1, hw⟩ := wp_ck hw
  refine G_getR fl_X11_way w_1450 dX11_laysWays_66 c1 ?_
  obtain ⟨a2, ea2, hw⟩ := wp_rq hw
  refine G.sure ea2 ?_
  refine G_iload dX11_laysWays_69 rfl ?_
  obtain ⟨c3, hw⟩ := wp_ck hw
  obtain ⟨c4, hw⟩ := wp_ck hw
  refine G_iaload dX11_laysWays_71 c3 c4 ?_
  refine G_goto (tgt := 77) dX11_laysWays_72 rfl ?_
  refine G.less [some (.ref l0), some (.int l1), some (.int l2), none, some (.int l4)] ⟨rfl, ⟨rfl, ⟨rfl, ⟨rfl, trivial⟩⟩⟩⟩ ?_
  exact f_X11_laysWays_77_ok hs hK_18 hK_32 _ _ _ _ _ _ _ h Q hw
set_option maxHeartbeats 4000000 in
set_option maxRecDepth 100000 in
theorem f_X11_laysWays_87_ok {Γ : GX} (hs : SF Γ) {N : Nat} {K_18 : Nat → Int32 → Int32 → Int32 → PH → Option (Int32 × PH)} (hK_18 : ∀ (l0 : Nat) (l1 : Int32) (l2 : Int32) (l3 : Int32) (h : PH) (Q : Int32 → PH → Prop), wp (K_18 l0 l1 l2 l3 h) Q → G Γ yX11_laysWays cX11_laysWays 5 (some .int) (11, 0, 0) 18 [some (.ref l0), some (.int l1), some (.int l2), some (.int l3), none] [] h (0, 0) (q_i Q)) (l0 : Nat) (l1 : Int32) (l2 : Int32) (h : PH) (Q : Int32 → PH → Prop) (hw : wp (f_X11_laysWays_87 N K_18 l0 l1 l2 h) Q) : G Γ yX11_laysWays cX11_laysWays 5 (some .int) (11, 0, 0) 87 [some (.ref l0), some (.int l1), some (.int l2), none, none] [] h (0, 0) (q_i Q) := by
  unfold f_X11_laysWays_87 at hw
  refine G_aload_n dX11_laysWays_87 rfl ?_
  refine G_iload_n dX11_laysWays_88 rfl ?_
  obtain ⟨c3, hw⟩ := wp_ck hw
  refine G_callV (As := [.int l1]) (s_X11_nextWay hs l0 l1 h _ (wp_cl hw)) ca_X11_nextWay w_1949 w_109 (ci := 10) rfl (by decide) w_1947 c3 (Nat.le_of_ble_eq_true rfl) (Nat.le_of_ble_eq_true rfl) rfl (Nat.le_of_ble_eq_true rfl) (Nat.le_of_ble_eq_true rfl) (Nat.le_of_ble_eq_true rfl) dX11_laysWays_89 rfl (fun v h2 hq => ?_)
  obtain ⟨r1, rfl, hw⟩ := hq
  refine G.cse (cs' := (0, 0)) rfl ?_
  show GZ _ _ _ _ _ _ _ 92 _ (.int r1 :: []) _ _
  refine G_istore_n (lv' := [some (.ref l0), some (.int l1), some (.int l2), some (.int r1), none]) dX11_laysWays_92 (Nat.le_of_ble_eq_true rfl) rfl ?_
  refine G_goto (tgt := 18) dX11_laysWays_93 rfl ?_
  refine G.less [some (.ref l0), some (.int l1), some (.int l2), some (.int r1), none] ⟨rfl, ⟨rfl, ⟨rfl, ⟨rfl, trivial⟩⟩⟩⟩ ?_
  exact hK_18 _ _ _ _ h2 Q hw
set_option maxHeartbeats 4000000 in
set_option maxRecDepth 100000 in
theorem f_X11_laysWays_32_bok {Γ : GX} (hs : SF Γ) {N : Nat} {K_18 : Nat → Int32 → Int32 → Int32 → PH → Option (Int32 × PH)} {K_32 : Nat → Int32 → Int32 → Int32 → PH → Option (Int32 × PH)} (hK_18 : ∀ (l0 : Nat) (l1 : Int32) (l2 : Int32) (l3 : Int32) (h : PH) (Q : Int32 → PH → Prop), wp (K_18 l0 l1 l2 l3 h) Q → G Γ yX11_laysWays cX11_laysWays 5 (some .int) (11, 0, 0) 18 [some (.ref l0), some (.int l1), some (.int l2), some (.int l3), none] [] h (0, 0) (q_i Q)) (hK_32 : ∀ (l0 : Nat) (l1 : Int32) (l2 : Int32) (l4 : Int32) (h : PH) (Q : Int32 → PH → Prop), wp (K_32 l0 l1 l2 l4 h) Q → G Γ yX11_laysWays cX11_laysWays 5 (some .int) (11, 0, 0) 32 [some (.ref l0), some (.int l1), some (.int l2), none, some (.int l4)] [] h (0, 0) (q_i Q)) (l0 : Nat) (l1 : Int32) (l2 : Int32) (l4 : Int32) (h : PH) (Q : Int32 → PH → Prop) (hw : wp (f_X11_laysWays_32_b N K_18 K_32 l0 l1 l2 l4 h) Q) : G Γ yX11_laysWays cX11_laysWays 5 (some .int) (11, 0, 0) 32 [some (.ref l0), some (.int l1), some (.int l2), none, some (.int l4)] [] h (0, 0) (q_i Q) := by
  unfold f_X11_laysWays_32_b at hw
  refine G_iload dX11_laysWays_32 rfl ?_
  refine G_iconst (v := (4 : Int32)) dX11_laysWays_34 (by decide) ?_
  have hw := wp_if hw
  refine G_icmp_ge (tgt := 84) dX11_laysWays_35 rfl (fun c1 => ?_) (fun c1 => ?_)
  · have hw := hw.1 c1
    obtain ⟨v2, ev2⟩ : ∃ z : Int32, z = l2 + (1 : Int32) := ⟨_, rfl⟩
    have hw := wp_bd hw v2 ev2
    refine G_iinc (v := v2) (lv' := [some (.ref l0), some (.int l1), some (.int v2), none, some (.int l4)]) dX11_laysWays_84 rfl (by rw [ev2]; rfl) (Nat.le_of_ble_eq_true rfl) rfl ?_
    refine G.less [some (.ref l0), some (.int l1), some (.int v2), none, none] ⟨rfl, ⟨rfl, ⟨rfl, trivial⟩⟩⟩ ?_
    exact f_X11_laysWays_87_ok hs hK_18 _ _ _ h Q hw
  · have hw := hw.2 c1
    refine G_aload_n dX11_laysWays_38 rfl ?_
    obtain ⟨c3, hw⟩ := wp_ck hw
    refine G_getR fl_X11_always w_1456 dX11_laysWays_39 c3 ?_
    obtain ⟨a4, ea4, hw⟩ := wp_rq hw
    refine G.sure ea4 ?_
    refine G_iload dX11_laysWays_42 rfl ?_
    refine G_iload_n dX11_laysWays_44 rfl ?_
    have hw := wp_if hw
    refine G_if_eq (tgt := 65) dX11_laysWays_45 rfl (fun c5 => ?_) (fun c5 => ?_)
    · have hw := hw.1 c5
      refine G.less [some (.ref l0), some (.int l1), some (.int l2), none, some (.int l4)] ⟨rfl, ⟨rfl, ⟨rfl, ⟨rfl, trivial⟩⟩⟩⟩ ?_
      exact f_X11_laysWays_65_ok hs hK_18 hK_32 _ _ _ _ _ _ h Q hw
    · have hw := hw.2 c5
      refine G_aload_n dX11_laysWays_48 rfl ?_
      refine G_getR fl_X11_always w_1456 dX11_laysWays_49 c3 ?_
      obtain ⟨a6, ea6, hw⟩ := wp_rq hw
      refine G.sure ea6 ?_
      refine G_iload dX11_laysWays_52 rfl ?_
      obtain ⟨c7, hw⟩ := wp_ck hw
      obtain ⟨c8, hw⟩ := wp_ck hw
      refine G_iaload dX11_laysWays_54 c7 c8 ?_
      refine G_aload_n dX11_laysWays_55 rfl ?_
      refine G_getR fl_X11_way w_1450 dX11_laysWays_56 c3 ?_
      obtain ⟨a9, ea9, hw⟩ := wp_rq hw
      refine G.sure ea9 ?_
      refine G_iload dX11_laysWays_59 rfl ?_
      obtain ⟨c10, hw⟩ := wp_ck hw
      obtain ⟨c11, hw⟩ := wp_ck hw
      refine G_iaload dX11_laysWays_61 c10 c11 ?_
      have hw := wp_if hw
      refine G_icmp_ne (tgt := 75) dX11_laysWays_62 rfl (fun c12 => ?_) (fun c12 => ?_)
      · have hw := hw.2 c12
        refine G_bipush (v := (6 : Int32)) dX11_laysWays_75 (by decide) ?_
        refine G.less [some (.ref l0), some (.int l1), some (.int l2), none, some (.int l4)] ⟨rfl, ⟨rfl, ⟨rfl, ⟨rfl, trivial⟩⟩⟩⟩ ?_
        exact f_X11_laysWays_77_ok hs hK_18 hK_32 _ _ _ _ _ _ _ h Q hw
      · have hw := hw.1 c12
        refine G.less [some (.ref l0), some (.int l1), some (.int l2), none, some (.int l4)] ⟨rfl, ⟨rfl, ⟨rfl, ⟨rfl, trivial⟩⟩⟩⟩ ?_
        exact f_X11_laysWays_65_ok hs hK_18 hK_32 _ _ _ _ _ _ h Q hw
theorem f_X11_laysWays_32_ok {Γ : GX} (hs : SF Γ) {N : Nat} {K_18 : Nat → Int32 → Int32 → Int32 → PH → Option (Int32 × PH)} (hK_18 : ∀ (l0 : Nat) (l1 : Int32) (l2 : Int32) (l3 : Int32) (h : PH) (Q : Int32 → PH → Prop), wp (K_18 l0 l1 l2 l3 h) Q → G Γ yX11_laysWays cX11_laysWays 5 (some .int) (11, 0, 0) 18 [some (.ref l0), some (.int l1), some (.int l2), some (.int l3), none] [] h (0, 0) (q_i Q)) : ∀ (n : Nat) (l0 : Nat) (l1 : Int32) (l2 : Int32) (l4 : Int32) (h : PH) (Q : Int32 → PH → Prop), wp (f_X11_laysWays_32 N K_18 n l0 l1 l2 l4 h) Q → G Γ yX11_laysWays cX11_laysWays 5 (some .int) (11, 0, 0) 32 [some (.ref l0), some (.int l1), some (.int l2), none, some (.int l4)] [] h (0, 0) (q_i Q)
  | 0, _, _, _, _, _, Q, hw => (wp_no hw).elim
  | n + 1, l0, l1, l2, l4, h, Q, hw => f_X11_laysWays_32_bok (N := N) hs hK_18 (f_X11_laysWays_32_ok (N := N) hs hK_18 n) l0 l1 l2 l4 h Q hw
set_option maxHeartbeats 4000000 in
set_option maxRecDepth 100000 in
theorem f_X11_laysWays_18_bok {Γ : GX} (hs : SF Γ) {N : Nat} {K_18 : Nat → Int32 → Int32 → Int32 → PH → Option (Int32 × PH)} (hK_18 : ∀ (l0 : Nat) (l1 : Int32) (l2 : Int32) (l3 : Int32) (h : PH) (Q : Int32 → PH → Prop), wp (K_18 l0 l1 l2 l3 h) Q → G Γ yX11_laysWays cX11_laysWays 5 (some .int) (11, 0, 0) 18 [some (.ref l0), some (.int l1), some (.int l2), some (.int l3), none] [] h (0, 0) (q_i Q)) (l0 : Nat) (l1 : Int32) (l2 : Int32) (l3 : Int32) (h : PH) (Q : Int32 → PH → Prop) (hw : wp (f_X11_laysWays_18_b N K_18 l0 l1 l2 l3 h) Q) : G Γ yX11_laysWays cX11_laysWays 5 (some .int) (11, 0, 0) 18 [some (.ref l0), some (.int l1), some (.int l2), some (.int l3), none] [] h (0, 0) (q_i Q) := by
  unfold f_X11_laysWays_18_b at hw
  refine G_iload_n dX11_laysWays_18 rfl ?_
  have hw := wp_if hw
  refine G_if_eq (tgt := 96) dX11_laysWays_19 rfl (fun c1 => ?_) (fun c1 => ?_)
  · have hw := hw.1 c1
    refine G_iload_n dX11_laysWays_96 rfl ?_
    exact G_ireturn rfl dX11_laysWays_97 ⟨_, rfl, wp_ret hw⟩
  · have hw := hw.2 c1
    refine G_aload_n dX11_laysWays_22 rfl ?_
    obtain ⟨c4, hw⟩ := wp_ck hw
    refine G_callV (As := []) (s_X11_isAllSeen hs l0 h _ (wp_cl hw)) ca_X11_isAllSeen w_1986 w_114 (ci := 10) rfl (by decide) w_1984 c4 (Nat.le_of_ble_eq_true rfl) (Nat.le_of_ble_eq_true rfl) rfl (Nat.le_of_ble_eq_true rfl) (Nat.le_of_ble_eq_true rfl) (Nat.le_of_ble_eq_true rfl) dX11_laysWays_23 rfl (fun v h3 hq => ?_)
    obtain ⟨r2, rfl, hw⟩ := hq
    refine G.cse (cs' := (0, 0)) rfl ?_
    show GZ _ _ _ _ _ _ _ 26 _ (.int r2 :: []) _ _
    have hw := wp_if hw
    refine G_if_eq (tgt := 87) dX11_laysWays_26 rfl (fun c5 => ?_) (fun c5 => ?_)
    · have hw := hw.1 c5
      refine G.less [some (.ref l0), some (.int l1), some (.int l2), none, none] ⟨rfl, ⟨rfl, ⟨rfl, trivial⟩⟩⟩ ?_
      exact f_X11_laysWays_87_ok hs hK_18 _ _ _ h3 Q hw
    · have hw := hw.2 c5
      refine G_iconst (v := (0 : Int32)) dX11_laysWays_29 (by decide) ?_
      refine G_istore (lv' := [some (.ref l0), some (.int l1), some (.int l2), some (.int l3), some (.int (0 : Int32))]) dX11_laysWays_30 (Nat.le_of_ble_eq_true rfl) rfl ?_
      refine G.less [some (.ref l0), some (.int l1), some (.int l2), none, some (.int (0 : Int32))] ⟨rfl, ⟨rfl, ⟨rfl, ⟨rfl, trivial⟩⟩⟩⟩ ?_
      exact f_X11_laysWays_32_ok hs hK_18 N _ _ _ _ h3 Q hw
theorem f_X11_laysWays_18_ok {Γ : GX} (hs : SF Γ) {N : Nat} : ∀ (n : Nat) (l0 : Nat) (l1 : Int32) (l2 : Int32) (l3 : Int32) (h : PH) (Q : Int32 → PH → Prop), wp (f_X11_laysWays_18 N n l0 l1 l2 l3 h) Q → G Γ yX11_laysWays cX11_laysWays 5 (some .int) (11, 0, 0) 18 [some (.ref l0), some (.int l1), some (.int l2), some (.int l3), none] [] h (0, 0) (q_i Q)
  | 0, _, _, _, _, _, Q, hw => (wp_no hw).elim
  | n + 1, l0, l1, l2, l3, h, Q, hw => f_X11_laysWays_18_bok (N := N) hs (f_X11_laysWays_18_ok (N := N) hs n) l0 l1 l2 l3 h Q hw
set_option maxHeartbeats 4000000 in
set_option maxRecDepth 100000 in
theorem s_X11_laysWays {Γ : GX} (hs : SF Γ) {N : Nat} (l0 : Nat) (h : PH) (Q : Int32 → PH → Prop) (hw : wp (f_X11_laysWays N l0 h) Q) : Spec Γ yX11_laysWays cX11_laysWays 5 (some .int) (11, 0, 0) [.ref l0] h (q_i Q) := by
  refine Spec.of (by decide) (Nat.le_of_ble_eq_true rfl) [some (.ref l0), none, none, none, none] rfl ?_
  unfold f_X11_laysWays at hw
  refine G_aload_n dX11_laysWays_0 rfl ?_
  refine G_aload_n dX11_laysWays_1 rfl ?_
  obtain ⟨c3, hw⟩ := wp_ck hw
  refine G_callV (As := []) (s_X11_allHouses hs l0 h _ (wp_cl hw)) ca_X11_allHouses w_1982 w_113 (ci := 10) rfl (by decide) w_1980 c3 (Nat.le_of_ble_eq_true rfl) (Nat.le_of_ble_eq_true rfl) rfl (Nat.le_of_ble_eq_true rfl) (Nat.le_of_ble_eq_true rfl) (Nat.le_of_ble_eq_true rfl) dX11_laysWays_2 rfl (fun v h2 hq => ?_)
  obtain ⟨r1, rfl, hw⟩ := hq
  refine G.cse (cs' := (0, 0)) rfl ?_
  show GZ _ _ _ _ _ _ _ 5 _ (.int r1 :: [.ref l0]) _ _
  obtain ⟨c6, hw⟩ := wp_ck hw
  refine G_callV (As := [.int r1]) (s_X11_withoutFire hs l0 r1 h2 _ (wp_cl hw)) ca_X11_withoutFire w_1909 w_99 (ci := 10) rfl (by decide) w_1907 c6 (Nat.le_of_ble_eq_true rfl) (Nat.le_of_ble_eq_true rfl) rfl (Nat.le_of_ble_eq_true rfl) (Nat.le_of_ble_eq_true rfl) (Nat.le_of_ble_eq_true rfl) dX11_laysWays_5 rfl (fun v h5 hq => ?_)
  obtain ⟨r4, rfl, hw⟩ := hq
  refine G.cse (cs' := (0, 0)) rfl ?_
  show GZ _ _ _ _ _ _ _ 8 _ (.int r4 :: []) _ _
  refine G_istore_n (lv' := [some (.ref l0), some (.int r4), none, none, none]) dX11_laysWays_8 (Nat.le_of_ble_eq_true rfl) rfl ?_
  refine G_iconst (v := (0 : Int32)) dX11_laysWays_9 (by decide) ?_
  refine G_istore_n (lv' := [some (.ref l0), some (.int r4), some (.int (0 : Int32)), none, none]) dX11_laysWays_10 (Nat.le_of_ble_eq_true rfl) rfl ?_
  refine G_aload_n dX11_laysWays_11 rfl ?_
  refine G_iload_n dX11_laysWays_12 rfl ?_
  obtain ⟨c9, hw⟩ := wp_ck hw
  refine G_callV (As := [.int r4]) (s_X11_firstWay hs l0 r4 h5 _ (wp_cl hw)) ca_X11_firstWay w_1913 w_100 (ci := 10) rfl (by decide) w_1911 c9 (Nat.le_of_ble_eq_true rfl) (Nat.le_of_ble_eq_true rfl) rfl (Nat.le_of_ble_eq_true rfl) (Nat.le_of_ble_eq_true rfl) (Nat.le_of_ble_eq_true rfl) dX11_laysWays_13 rfl (fun v h8 hq => ?_)
  obtain ⟨rfl, hw⟩ := hq
  refine G.cse (cs' := (0, 0)) rfl ?_
  show GZ _ _ _ _ _ _ _ 16 _ [] _ _
  refine G_iconst (v := (1 : Int32)) dX11_laysWays_16 (by decide) ?_
  refine G_istore_n (lv' := [some (.ref l0), some (.int r4), some (.int (0 : Int32)), some (.int (1 : Int32)), none]) dX11_laysWays_17 (Nat.le_of_ble_eq_true rfl) rfl ?_
  refine G.less [some (.ref l0), some (.int r4), some (.int (0 : Int32)), some (.int (1 : Int32)), none] ⟨rfl, ⟨rfl, ⟨rfl, ⟨rfl, trivial⟩⟩⟩⟩ ?_
  exact f_X11_laysWays_18_ok hs N _ _ _ _ h8 Q hw
set_option maxHeartbeats 4000000 in
set_option maxRecDepth 100000 in
theorem f_X11_ways_29_ok {Γ : GX} (hs : SF Γ) {N : Nat} (l0 : Nat) (l1 : Int32) (h : PH) (Q : Int32 → PH → Prop) (hw : wp (f_X11_ways_29 N l0 l1 h) Q) : G Γ yX11_ways cX11_ways 3 (some .int) (12, 0, 0) 29 [some (.ref l0), some (.int l1), none] [] h (0, 0) (q_i Q) := by
  unfold f_X11_ways_29 at hw
  refine G_aload_n dX11_ways_29 rfl ?_
  obtain ⟨c3, hw⟩ := wp_ck hw
  refine G_callV (As := []) (s_X11_laysWays hs l0 h _ (wp_cl hw)) ca_X11_laysWays w_1978 w_112 (ci := 10) rfl (by decide) w_1976 c3 (Nat.le_of_ble_eq_true rfl) (Nat.le_of_ble_eq_true rfl) rfl (Nat.le_of_ble_eq_true rfl) (Nat.le_of_ble_eq_true rfl) (Nat.le_of_ble_eq_true rfl) dX11_ways_30 rfl (fun v h2 hq => ?_)
  obtain ⟨r1, rfl, hw⟩ := hq
  refine G.cse (cs' := (0, 0)) rfl ?_
  show GZ _ _ _ _ _ _ _ 33 _ (.int r1 :: []) _ _
  refine G_istore_n (lv' := [some (.ref l0), some (.int l1), some (.int r1)]) dX11_ways_33 (Nat.le_of_ble_eq_true rfl) rfl ?_
  refine G_iload_n dX11_ways_34 rfl ?_
  refine G_iconst (v := (-1 : Int32)) dX11_ways_35 (by decide) ?_
  have hw := wp_if hw
  refine G_icmp_ne (tgt := 41) dX11_ways_36 rfl (fun c4 => ?_) (fun c4 => ?_)
  · have hw := hw.2 c4
    refine G_iload_n dX11_ways_41 rfl ?_
    have hw := wp_if hw
    refine G_if_eq (tgt := 56) dX11_ways_42 rfl (fun c5 => ?_) (fun c5 => ?_)
    · have hw := hw.1 c5
      refine G_iconst (v := (-1 : Int32)) dX11_ways_56 (by decide) ?_
      refine G_goto (tgt := 75) dX11_ways_57 rfl ?_
      exact G_ireturn rfl dX11_ways_75 ⟨_, rfl, wp_ret hw⟩
    · have hw := hw.2 c5
      refine G_aload_n dX11_ways_45 rfl ?_
      obtain ⟨c6, hw⟩ := wp_ck hw
      refine G_getR fl_X11_always w_1456 dX11_ways_46 c6 ?_
      obtain ⟨a7, ea7, hw⟩ := wp_rq hw
      refine G.sure ea7 ?_
      refine G_iload_n dX11_ways_49 rfl ?_
      obtain ⟨c8, hw⟩ := wp_ck hw
      obtain ⟨c9, hw⟩ := wp_ck hw
      refine G_iaload dX11_ways_50 c8 c9 ?_
      refine G_bipush (v := (6 : Int32)) dX11_ways_51 (by decide) ?_
      have hw := wp_if hw
      refine G_icmp_ne (tgt := 60) dX11_ways_53 rfl (fun c10 => ?_) (fun c10 => ?_)
      · have hw := hw.2 c10
        refine G_aload_n dX11_ways_60 rfl ?_
        refine G_getR fl_X11_always w_1456 dX11_ways_61 c6 ?_
        obtain ⟨a11, ea11, hw⟩ := wp_rq hw
        refine G.sure ea11 ?_
        refine G_iload_n dX11_ways_64 rfl ?_
        obtain ⟨c12, hw⟩ := wp_ck hw
        obtain ⟨c13, hw⟩ := wp_ck hw
        refine G_iaload dX11_ways_65 c12 c13 ?_
        refine G_aload_n dX11_ways_66 rfl ?_
        refine G_getR fl_X11_valley w_1403 dX11_ways_67 c6 ?_
        obtain ⟨a14, ea14, hw⟩ := wp_rq hw
        refine G.sure ea14 ?_
        refine G_iconst (v := (0 : Int32)) dX11_ways_70 (by decide) ?_
        obtain ⟨c15, hw⟩ := wp_ck hw
        obtain ⟨c16, hw⟩ := wp_ck hw
        refine G_ialoadK (k := 0) dX11_ways_71 c15 (by decide) rfl c16 ?_
        refine G_mmin w_1835 w_642 w_139 w_643 dX11_ways_72 (Nat.le_of_ble_eq_true rfl) (Nat.le_of_ble_eq_true rfl) (Nat.le_of_ble_eq_true rfl) (Nat.le_of_ble_eq_true rfl) ?_
        exact G_ireturn rfl dX11_ways_75 ⟨_, rfl, wp_ret hw⟩
      · have hw := hw.1 c10
        refine G_iconst (v := (-1 : Int32)) dX11_ways_56 (by decide) ?_
        refine G_goto (tgt := 75) dX11_ways_57 rfl ?_
        exact G_ireturn rfl dX11_ways_75 ⟨_, rfl, wp_ret hw⟩
  · have hw := hw.1 c4
    refine G_iload_n dX11_ways_39 rfl ?_
    exact G_ireturn rfl dX11_ways_40 ⟨_, rfl, wp_ret hw⟩
set_option maxHeartbeats 4000000 in
set_option maxRecDepth 100000 in
theorem s_X11_ways {Γ : GX} (hs : SF Γ) {N : Nat} (l0 : Nat) (l1 : Int32) (h : PH) (Q : Int32 → PH → Prop) (hw : wp (f_X11_ways N l0 l1 h) Q) : Spec Γ yX11_ways cX11_ways 3 (some .int) (12, 0, 0) [.ref l0, .int l1] h (q_i Q) := by
  refine Spec.of (by decide) (Nat.le_of_ble_eq_true rfl) [some (.ref l0), some (.int l1), none] rfl ?_
  unfold f_X11_ways at hw
  refine G_aload_n dX11_ways_0 rfl ?_
  refine G_iconst (v := (0 : Int32)) dX11_ways_1 (by decide) ?_
  obtain ⟨c1, hw⟩ := wp_ck hw
  refine G_putI fl_X11_thrown w_1393 dX11_ways_2 c1 ?_
  refine G.nmh fun h2 eh2 => ?_
  have hw := wp_bd hw h2 eh2
  refine G_iload_n dX11_ways_5 rfl ?_
  refine G_iconst (v := (-1 : Int32)) dX11_ways_6 (by decide) ?_
  have hw := wp_if hw
  refine G_icmp_eq (tgt := 29) dX11_ways_7 rfl (fun c3 => ?_) (fun c3 => ?_)
  · have hw := hw.1 c3
    refine G.less [some (.ref l0), some (.int l1), none] ⟨rfl, ⟨rfl, trivial⟩⟩ ?_
    exact f_X11_ways_29_ok hs _ _ h2 Q hw
  · have hw := hw.2 c3
    refine G_aload_n dX11_ways_10 rfl ?_
    refine G_iload_n dX11_ways_11 rfl ?_
    obtain ⟨c6, hw⟩ := wp_ck hw
    refine G_callV (As := [.int l1]) (s_X11_isHouse hs l0 l1 h2 _ (wp_cl hw)) ca_X11_isHouse w_1786 w_77 (ci := 10) rfl (by decide) w_1784 c6 (Nat.le_of_ble_eq_true rfl) (Nat.le_of_ble_eq_true rfl) rfl (Nat.le_of_ble_eq_true rfl) (Nat.le_of_ble_eq_true rfl) (Nat.le_of_ble_eq_true rfl) dX11_ways_12 rfl (fun v h5 hq => ?_)
    obtain ⟨r4, rfl, hw⟩ := hq
    refine G.cse (cs' := (0, 0)) rfl ?_
    show GZ _ _ _ _ _ _ _ 15 _ (.int r4 :: []) _ _
    have hw := wp_if hw
    refine G_if_eq (tgt := 26) dX11_ways_15 rfl (fun c7 => ?_) (fun c7 => ?_)
    · have hw := hw.1 c7
      refine G_bipush (v := (-2 : Int32)) dX11_ways_26 (by decide) ?_
      exact G_ireturn rfl dX11_ways_28 ⟨_, rfl, wp_ret hw⟩
    · have hw := hw.2 c7
      refine G_aload_n dX11_ways_18 rfl ?_
      refine G_iload_n dX11_ways_19 rfl ?_
      obtain ⟨c10, hw⟩ := wp_ck hw
      refine G_callV (As := [.int l1]) (s_X11_isFire hs l0 l1 h5 _ (wp_cl hw)) ca_X11_isFire w_1806 w_81 (ci := 10) rfl (by decide) w_1804 c10 (Nat.le_of_ble_eq_true rfl) (Nat.le_of_ble_eq_true rfl) rfl (Nat.le_of_ble_eq_true rfl) (Nat.le_of_ble_eq_true rfl) (Nat.le_of_ble_eq_true rfl) dX11_ways_20 rfl (fun v h9 hq => ?_)
      obtain ⟨r8, rfl, hw⟩ := hq
      refine G.cse (cs' := (0, 0)) rfl ?_
      show GZ _ _ _ _ _ _ _ 23 _ (.int r8 :: []) _ _
      have hw := wp_if hw
      refine G_if_eq (tgt := 29) dX11_ways_23 rfl (fun c11 => ?_) (fun c11 => ?_)
      · have hw := hw.1 c11
        refine G.less [some (.ref l0), some (.int l1), none] ⟨rfl, ⟨rfl, trivial⟩⟩ ?_
        exact f_X11_ways_29_ok hs _ _ h9 Q hw
      · have hw := hw.2 c11
        refine G_bipush (v := (-2 : Int32)) dX11_ways_26 (by decide) ?_
        exact G_ireturn rfl dX11_ways_28 ⟨_, rfl, wp_ret hw⟩
