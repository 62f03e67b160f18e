set_option maxHeartbeats 4000000 in
set_option maxRecDepth 100000 in
theorem s_X1_readFrom {Γ : GX} (hs : SF Γ) {N : Nat} (l0 : Nat) (l1 : Nat) (h : PH) (Q : Unit → PH → Prop) (hw : wp (f_X1_readFrom N l0 l1 h) Q) : Spec Γ yX1_readFrom cX1_readFrom 2 none (47, 0, 0) [.ref l0, .ref l1] h (q_u Q) := by
  refine Spec.of (by decide) (Nat.le_of_ble_eq_true rfl) [some (.ref l0), some (.ref l1)] rfl ?_
  unfold f_X1_readFrom at hw
  refine G_aload_n dX1_readFrom_0 rfl ?_
  refine G_aload_n dX1_readFrom_1 rfl ?_
  refine G_iconst (v := (0 : Int32)) dX1_readFrom_2 (by decide) ?_
  obtain ⟨c3, hw⟩ := wp_ck hw
  refine G_callV (As := [.ref l1, .int (0 : Int32)]) (s_X1_readTests hs 40 l0 l1 (0 : Int32) h _ (wp_cl hw)) ca_X1_readTests w_846 w_14 (ci := 1) rfl (by decide) w_844 c3 (Nat.le_of_ble_eq_true rfl) (Nat.le_of_ble_eq_true rfl) rfl (Nat.le_of_ble_eq_true rfl) (Nat.le_of_ble_eq_true rfl) (Nat.le_of_ble_eq_true rfl) dX1_readFrom_3 rfl (fun v h2 hq => ?_)
  obtain ⟨rfl, hw⟩ := hq
  refine G.cse (cs' := (0, 0)) rfl ?_
  show GZ _ _ _ _ _ _ _ 6 _ [] _ _
  exact G_vreturn rfl dX1_readFrom_6 ⟨rfl, wp_ret hw⟩
set_option maxHeartbeats 4000000 in
set_option maxRecDepth 100000 in
theorem f_X7_readLaw_40_ok {Γ : GX} (hs : SF Γ) {N : Nat} (l0 : Nat) (h : PH) (Q : Unit → PH → Prop) (hw : wp (f_X7_readLaw_40 N l0 h) Q) : G Γ yX7_readLaw cX7_readLaw 2 none (48, 0, 0) 40 [some (.ref l0), none] [] h (0, 0) (q_u Q) := by
  unfold f_X7_readLaw_40 at hw
  refine G_aload_n dX7_readLaw_40 rfl ?_
  obtain ⟨c1, hw⟩ := wp_ck hw
  refine G_getR fl_X7_tape w_561 dX7_readLaw_41 c1 ?_
  obtain ⟨a2, ea2, hw⟩ := wp_rq hw
  refine G.sure ea2 ?_
  refine G_bipush (v := (59 : Int32)) dX7_readLaw_44 (by decide) ?_
  obtain ⟨c5, hw⟩ := wp_ck hw
  refine G_callV (As := [.int (59 : Int32)]) (s_X5_expectSign hs a2 (59 : Int32) h _ (wp_cl hw)) ca_X5_expectSign w_756 w_757 (ci := 5) rfl (by decide) w_755 c5 (Nat.le_of_ble_eq_true rfl) (Nat.le_of_ble_eq_true rfl) rfl (Nat.le_of_ble_eq_true rfl) (Nat.le_of_ble_eq_true rfl) (Nat.le_of_ble_eq_true rfl) dX7_readLaw_46 rfl (fun v h4 hq => ?_)
  obtain ⟨rfl, hw⟩ := hq
  refine G.cse (cs' := (0, 0)) rfl ?_
  show GZ _ _ _ _ _ _ _ 49 _ [] _ _
  exact G_vreturn rfl dX7_readLaw_49 ⟨rfl, wp_ret hw⟩
set_option maxHeartbeats 4000000 in
set_option maxRecDepth 100000 in
theorem f_X7_readLaw_15_ok {Γ : GX} (hs : SF Γ) {N : Nat} (l0 : Nat) (l1 : Nat) (h : PH) (Q : Unit → PH → Prop) (hw : wp (f_X7_readLaw_15 N l0 l1 h) Q) : G Γ yX7_readLaw cX7_readLaw 2 none (48, 0, 0) 15 [some (.ref l0), some (.ref l1)] [] h (0, 0) (q_u Q) := by
  unfold f_X7_readLaw_15 at hw
  refine G_aload_n dX7_readLaw_15 rfl ?_
  obtain ⟨c1, hw⟩ := wp_ck hw
  refine G_getR fl_X7_tape w_561 dX7_readLaw_16 c1 ?_
  obtain ⟨a2, ea2, hw⟩ := wp_rq hw
  refine G.sure ea2 ?_
  obtain ⟨c5, hw⟩ := wp_ck hw
  refine G_callV (As := []) (s_X5_step hs a2 h _ (wp_cl hw)) ca_X5_step w_586 w_587 (ci := 5) rfl (by decide) w_718 c5 (Nat.le_of_ble_eq_true rfl) (Nat.le_of_ble_eq_true rfl) rfl (Nat.le_of_ble_eq_true rfl) (Nat.le_of_ble_eq_true rfl) (Nat.le_of_ble_eq_true rfl) dX7_readLaw_19 rfl (fun v h4 hq => ?_)
  obtain ⟨rfl, hw⟩ := hq
  refine G.cse (cs' := (0, 0)) rfl ?_
  show GZ _ _ _ _ _ _ _ 22 _ [] _ _
  refine G_aload_n dX7_readLaw_22 rfl ?_
  obtain ⟨c6, hw⟩ := wp_ck hw
  refine G_getR fl_X7_tape w_561 dX7_readLaw_23 c6 ?_
  obtain ⟨a7, ea7, hw⟩ := wp_rq hw
  refine G.sure ea7 ?_
  obtain ⟨c10, hw⟩ := wp_ck hw
  refine G_callV (As := []) (s_X5_isSound hs a7 h4 _ (wp_cl hw)) ca_X5_isSound w_764 w_765 (ci := 5) rfl (by decide) w_763 c10 (Nat.le_of_ble_eq_true rfl) (Nat.le_of_ble_eq_true rfl) rfl (Nat.le_of_ble_eq_true rfl) (Nat.le_of_ble_eq_true rfl) (Nat.le_of_ble_eq_true rfl) dX7_readLaw_26 rfl (fun v h9 hq => ?_)
  obtain ⟨r8, rfl, hw⟩ := hq
  refine G.cse (cs' := (0, 0)) rfl ?_
  show GZ _ _ _ _ _ _ _ 29 _ (.int r8 :: []) _ _
  have hw := wp_if hw
  refine G_if_eq (tgt := 40) dX7_readLaw_29 rfl (fun c11 => ?_) (fun c11 => ?_)
  · have hw := hw.1 c11
    refine G.less [some (.ref l0), none] ⟨rfl, trivial⟩ ?_
    exact f_X7_readLaw_40_ok hs _ h9 Q hw
  · have hw := hw.2 c11
    refine G_aload_n dX7_readLaw_32 rfl ?_
    refine G_aload_n dX7_readLaw_33 rfl ?_
    obtain ⟨c12, hw⟩ := wp_ck hw
    refine G_getR fl_X7_tape w_561 dX7_readLaw_34 c12 ?_
    obtain ⟨a13, ea13, hw⟩ := wp_rq hw
    refine G.sure ea13 ?_
    obtain ⟨c16, hw⟩ := wp_ck hw
    refine G_callV (As := [.ref a13]) (s_X1_readFrom hs l1 a13 h9 _ (wp_cl hw)) ca_X1_readFrom w_841 w_842 (ci := 1) rfl (by decide) w_840 c16 (Nat.le_of_ble_eq_true rfl) (Nat.le_of_ble_eq_true rfl) rfl (Nat.le_of_ble_eq_true rfl) (Nat.le_of_ble_eq_true rfl) (Nat.le_of_ble_eq_true rfl) dX7_readLaw_37 rfl (fun v h15 hq => ?_)
    obtain ⟨rfl, hw⟩ := hq
    refine G.cse (cs' := (0, 0)) rfl ?_
    show GZ _ _ _ _ _ _ _ 40 _ [] _ _
    refine G.less [some (.ref l0), none] ⟨rfl, trivial⟩ ?_
    exact f_X7_readLaw_40_ok hs _ h15 Q hw
set_option maxHeartbeats 4000000 in
set_option maxRecDepth 100000 in
theorem s_X7_readLaw {Γ : GX} (hs : SF Γ) {N : Nat} (l0 : Nat) (l1 : Nat) (h : PH) (Q : Unit → PH → Prop) (hw : wp (f_X7_readLaw N l0 l1 h) Q) : Spec Γ yX7_readLaw cX7_readLaw 2 none (48, 0, 0) [.ref l0, .ref l1] h (q_u Q) := by
  refine Spec.of (by decide) (Nat.le_of_ble_eq_true rfl) [some (.ref l0), some (.ref l1)] rfl ?_
  unfold f_X7_readLaw at hw
  refine G_aload_n dX7_readLaw_0 rfl ?_
  obtain ⟨c3, hw⟩ := wp_ck hw
  refine G_callV (As := []) (s_X1_isTold hs l1 h _ (wp_cl hw)) ca_X1_isTold w_837 w_838 (ci := 1) rfl (by decide) w_836 c3 (Nat.le_of_ble_eq_true rfl) (Nat.le_of_ble_eq_true rfl) rfl (Nat.le_of_ble_eq_true rfl) (Nat.le_of_ble_eq_true rfl) (Nat.le_of_ble_eq_true rfl) dX7_readLaw_1 rfl (fun v h2 hq => ?_)
  obtain ⟨r1, rfl, hw⟩ := hq
  refine G.cse (cs' := (0, 0)) rfl ?_
  show GZ _ _ _ _ _ _ _ 4 _ (.int r1 :: []) _ _
  have hw := wp_if hw
  refine G_if_eq (tgt := 15) dX7_readLaw_4 rfl (fun c4 => ?_) (fun c4 => ?_)
  · have hw := hw.1 c4
    refine G.less [some (.ref l0), some (.ref l1)] ⟨rfl, ⟨rfl, trivial⟩⟩ ?_
    exact f_X7_readLaw_15_ok hs _ _ h2 Q hw
  · have hw := hw.2 c4
    refine G_aload_n dX7_readLaw_7 rfl ?_
    obtain ⟨c5, hw⟩ := wp_ck hw
    refine G_getR fl_X7_tape w_561 dX7_readLaw_8 c5 ?_
    obtain ⟨a6, ea6, hw⟩ := wp_rq hw
    refine G.sure ea6 ?_
    refine G_iconst (v := (3 : Int32)) dX7_readLaw_11 (by decide) ?_
    obtain ⟨c9, hw⟩ := wp_ck hw
    refine G_callV (As := [.int (3 : Int32)]) (s_X5_fail hs a6 (3 : Int32) h2 _ (wp_cl hw)) ca_X5_fail w_715 w_716 (ci := 5) rfl (by decide) w_714 c9 (Nat.le_of_ble_eq_true rfl) (Nat.le_of_ble_eq_true rfl) rfl (Nat.le_of_ble_eq_true rfl) (Nat.le_of_ble_eq_true rfl) (Nat.le_of_ble_eq_true rfl) dX7_readLaw_12 rfl (fun v h8 hq => ?_)
    obtain ⟨rfl, hw⟩ := hq
    refine G.cse (cs' := (0, 0)) rfl ?_
    show GZ _ _ _ _ _ _ _ 15 _ [] _ _
    refine G.less [some (.ref l0), some (.ref l1)] ⟨rfl, ⟨rfl, trivial⟩⟩ ?_
    exact f_X7_readLaw_15_ok hs _ _ h8 Q hw
set_option maxHeartbeats 4000000 in
set_option maxRecDepth 100000 in
theorem f_X7_readLines_235_ok {Γ : GX} (hs : SF Γ) {N : Nat} {K_16 : Nat → Int32 → PH → Option (Unit × PH)} (hK_16 : ∀ (l0 : Nat) (l1 : Int32) (h : PH) (Q : Unit → PH → Prop), wp (K_16 l0 l1 h) Q → G Γ yX7_readLines cX7_readLines 2 none (49, 0, 0) 16 [some (.ref l0), some (.int l1)] [] h (0, 0) (q_u Q)) (l0 : Nat) (l1 : Int32) (h : PH) (Q : Unit → PH → Prop) (hw : wp (f_X7_readLines_235 N K_16 l0 l1 h) Q) : G Γ yX7_readLines cX7_readLines 2 none (49, 0, 0) 235 [some (.ref l0), some (.int l1)] [] h (0, 0) (q_u Q) := by
  unfold f_X7_readLines_235 at hw
  obtain ⟨v1, ev1⟩ : ∃ z : Int32, z = l1 + (1 : Int32) := ⟨_, rfl⟩
  have hw := wp_bd hw v1 ev1
  refine G_iinc (v := v1) (lv' := [some (.ref l0), some (.int v1)]) dX7_readLines_235 rfl (by rw [ev1]; rfl) (Nat.le_of_ble_eq_true rfl) rfl ?_
  refine G_goto (tgt := 16) dX7_readLines_238 rfl ?_
  refine G.less [some (.ref l0), some (.int v1)] ⟨rfl, ⟨rfl, trivial⟩⟩ ?_
  exact hK_16 _ _ h Q hw
set_option maxHeartbeats 4000000 in
set_option maxRecDepth 100000 in
theorem f_X7_readLines_16_bok {Γ : GX} (hs : SF Γ) {N : Nat} {K_16 : Nat → Int32 → PH → Option (Unit × PH)} (hK_16 : ∀ (l0 : Nat) (l1 : Int32) (h : PH) (Q : Unit → PH → Prop), wp (K_16 l0 l1 h) Q → G Γ yX7_readLines cX7_readLines 2 none (49, 0, 0) 16 [some (.ref l0), some (.int l1)] [] h (0, 0) (q_u Q)) (l0 : Nat) (l1 : Int32) (h : PH) (Q : Unit → PH → Prop) (hw : wp (f_X7_readLines_16_b N K_16 l0 l1 h) Q) : G Γ yX7_readLines cX7_readLines 2 none (49, 0, 0) 16 [some (.ref l0), some (.int l1)] [] h (0, 0) (q_u Q) := by
  unfold f_X7_readLines_16_b at hw
  refine G_iload_n dX7_readLines_16 rfl ?_
  refine G_sipush (v := (1000 : Int32)) dX7_readLines_17 (by decide) ?_
  have hw := wp_if hw
  refine G_icmp_ge (tgt := 241) dX7_readLines_20 rfl (fun c1 => ?_) (fun c1 => ?_)
  · have hw := hw.1 c1
    exact G_vreturn rfl dX7_readLines_241 ⟨rfl, wp_ret hw⟩
  · have hw := hw.2 c1
    refine G_aload_n dX7_readLines_23 rfl ?_
    obtain ⟨c2, hw⟩ := wp_ck hw
    refine G_getR fl_X7_tape w_561 dX7_readLines_24 c2 ?_
    obtain ⟨a3, ea3, hw⟩ := wp_rq hw
    refine G.sure ea3 ?_
    obtain ⟨c6, hw⟩ := wp_ck hw
    refine G_callV (As := []) (s_X5_isOver hs a3 h _ (wp_cl hw)) ca_X5_isOver w_697 w_698 (ci := 5) rfl (by decide) w_696 c6 (Nat.le_of_ble_eq_true rfl) (Nat.le_of_ble_eq_true rfl) rfl (Nat.le_of_ble_eq_true rfl) (Nat.le_of_ble_eq_true rfl) (Nat.le_of_ble_eq_true rfl) dX7_readLines_27 rfl (fun v h5 hq => ?_)
    obtain ⟨r4, rfl, hw⟩ := hq
    refine G.cse (cs' := (0, 0)) rfl ?_
    show GZ _ _ _ _ _ _ _ 30 _ (.int r4 :: []) _ _
    have hw := wp_if hw
    refine G_if_ne (tgt := 241) dX7_readLines_30 rfl (fun c7 => ?_) (fun c7 => ?_)
    · have hw := hw.2 c7
      exact G_vreturn rfl dX7_readLines_241 ⟨rfl, wp_ret hw⟩
    · have hw := hw.1 c7
      refine G_aload_n dX7_readLines_33 rfl ?_
      obtain ⟨c8, hw⟩ := wp_ck hw
      refine G_getR fl_X7_tape w_561 dX7_readLines_34 c8 ?_
      obtain ⟨a9, ea9, hw⟩ := wp_rq hw
      refine G.sure ea9 ?_
      refine G_getsW hs 0 rfl (by decide) w_700 dX7_readLines_37 ?_
      obtain ⟨c12, hw⟩ := wp_ck hw
      refine G_callV (As := [.ref (hW h5 0)]) (s_X5_isAt hs a9 (hW h5 0) h5 _ (wp_cl hw)) ca_X5_isAt w_703 w_704 (ci := 5) rfl (by decide) w_702 c12 (Nat.le_of_ble_eq_true rfl) (Nat.le_of_ble_eq_true rfl) rfl (Nat.le_of_ble_eq_true rfl) (Nat.le_of_ble_eq_true rfl) (Nat.le_of_ble_eq_true rfl) dX7_readLines_40 rfl (fun v h11 hq => ?_)
      obtain ⟨r10, rfl, hw⟩ := hq
      refine G.cse (cs' := (0, 0)) rfl ?_
      show GZ _ _ _ _ _ _ _ 43 _ (.int r10 :: []) _ _
      have hw := wp_if hw
      refine G_if_eq (tgt := 53) dX7_readLines_43 rfl (fun c13 => ?_) (fun c13 => ?_)
      · have hw := hw.1 c13
        refine G_aload_n dX7_readLines_53 rfl ?_
        obtain ⟨c14, hw⟩ := wp_ck hw
        refine G_getR fl_X7_tape w_561 dX7_readLines_54 c14 ?_
        obtain ⟨a15, ea15, hw⟩ := wp_rq hw
        refine G.sure ea15 ?_
        refine G_getsW hs 4 rfl (by decide) w_771 dX7_readLines_57 ?_
        obtain ⟨c18, hw⟩ := wp_ck hw
        refine G_callV (As := [.ref (hW h11 4)]) (s_X5_isAt hs a15 (hW h11 4) h11 _ (wp_cl hw)) ca_X5_isAt w_703 w_704 (ci := 5) rfl (by decide) w_702 c18 (Nat.le_of_ble_eq_true rfl) (Nat.le_of_ble_eq_true rfl) rfl (Nat.le_of_ble_eq_true rfl) (Nat.le_of_ble_eq_true rfl) (Nat.le_of_ble_eq_true rfl) dX7_readLines_60 rfl (fun v h17 hq => ?_)
        obtain ⟨r16, rfl, hw⟩ := hq
        refine G.cse (cs' := (0, 0)) rfl ?_
        show GZ _ _ _ _ _ _ _ 63 _ (.int r16 :: []) _ _
        have hw := wp_if hw
        refine G_if_eq (tgt := 73) dX7_readLines_63 rfl (fun c19 => ?_) (fun c19 => ?_)
        · have hw := hw.1 c19
          refine G_aload_n dX7_readLines_73 rfl ?_
          obtain ⟨c20, hw⟩ := wp_ck hw
          refine G_getR fl_X7_tape w_561 dX7_readLines_74 c20 ?_
          obtain ⟨a21, ea21, hw⟩ := wp_rq hw
          refine G.sure ea21 ?_
          refine G_getsW hs 5 rfl (by decide) w_777 dX7_readLines_77 ?_
          obtain ⟨c24, hw⟩ := wp_ck hw
          refine G_callV (As := [.ref (hW h17 5)]) (s_X5_isAt hs a21 (hW h17 5) h17 _ (wp_cl hw)) ca_X5_isAt w_703 w_704 (ci := 5) rfl (by decide) w_702 c24 (Nat.le_of_ble_eq_true rfl) (Nat.le_of_ble_eq_true rfl) rfl (Nat.le_of_ble_eq_true rfl) (Nat.le_of_ble_eq_true rfl) (Nat.le_of_ble_eq_true rfl) dX7_readLines_80 rfl (fun v h23 hq => ?_)
          obtain ⟨r22, rfl, hw⟩ := hq
          refine G.cse (cs' := (0, 0)) rfl ?_
          show GZ _ _ _ _ _ _ _ 83 _ (.int r22 :: []) _ _
          have hw := wp_if hw
          refine G_if_eq (tgt := 93) dX7_readLines_83 rfl (fun c25 => ?_) (fun c25 => ?_)
          · have hw := hw.1 c25
            refine G_aload_n dX7_readLines_93 rfl ?_
            obtain ⟨c26, hw⟩ := wp_ck hw
            refine G_getR fl_X7_tape w_561 dX7_readLines_94 c26 ?_
            obtain ⟨a27, ea27, hw⟩ := wp_rq hw
            refine G.sure ea27 ?_
            refine G_getsW hs 7 rfl (by decide) w_791 dX7_readLines_97 ?_
            obtain ⟨c30, hw⟩ := wp_ck hw
            refine G_callV (As := [.ref (hW h23 7)]) (s_X5_isAt hs a27 (hW h23 7) h23 _ (wp_cl hw)) ca_X5_isAt w_703 w_704 (ci := 5) rfl (by decide) w_702 c30 (Nat.le_of_ble_eq_true rfl) (Nat.le_of_ble_eq_true rfl) rfl (Nat.le_of_ble_eq_true rfl) (Nat.le_of_ble_eq_true rfl) (Nat.le_of_ble_eq_true rfl) dX7_readLines_100 rfl (fun v h29 hq => ?_)
            obtain ⟨r28, rfl, hw⟩ := hq
            refine G.cse (cs' := (0, 0)) rfl ?_
            show GZ _ _ _ _ _ _ _ 103 _ (.int r28 :: []) _ _
            have hw := wp_if hw
            refine G_if_eq (tgt := 113) dX7_readLines_103 rfl (fun c31 => ?_) (fun c31 => ?_)
            · have hw := hw.1 c31
              refine G_aload_n dX7_readLines_113 rfl ?_
              obtain ⟨c32, hw⟩ := wp_ck hw
              refine G_getR fl_X7_tape w_561 dX7_readLines_114 c32 ?_
              obtain ⟨a33, ea33, hw⟩ := wp_rq hw
              refine G.sure ea33 ?_
              refine G_getsW hs 8 rfl (by decide) w_797 dX7_readLines_117 ?_
              obtain ⟨c36, hw⟩ := wp_ck hw
              refine G_callV (As := [.ref (hW h29 8)]) (s_X5_isAt hs a33 (hW h29 8) h29 _ (wp_cl hw)) ca_X5_isAt w_703 w_704 (ci := 5) rfl (by decide) w_702 c36 (Nat.le_of_ble_eq_true rfl) (Nat.le_of_ble_eq_true rfl) rfl (Nat.le_of_ble_eq_true rfl) (Nat.le_of_ble_eq_true rfl) (Nat.le_of_ble_eq_true rfl) dX7_readLines_120 rfl (fun v h35 hq => ?_)
              obtain ⟨r34, rfl, hw⟩ := hq
              refine G.cse (cs' := (0, 0)) rfl ?_
              show GZ _ _ _ _ _ _ _ 123 _ (.int r34 :: []) _ _
              have hw := wp_if hw
              refine G_if_eq (tgt := 133) dX7_readLines_123 rfl (fun c37 => ?_) (fun c37 => ?_)
              · have hw := hw.1 c37
                refine G_aload_n dX7_readLines_133 rfl ?_
                obtain ⟨c38, hw⟩ := wp_ck hw
                refine G_getR fl_X7_tape w_561 dX7_readLines_134 c38 ?_
                obtain ⟨a39, ea39, hw⟩ := wp_rq hw
                refine G.sure ea39 ?_
                refine G_getsW hs 10 rfl (by decide) w_809 dX7_readLines_137 ?_
                obtain ⟨c42, hw⟩ := wp_ck hw
                refine G_callV (As := [.ref (hW h35 10)]) (s_X5_isAt hs a39 (hW h35 10) h35 _ (wp_cl hw)) ca_X5_isAt w_703 w_704 (ci := 5) rfl (by decide) w_702 c42 (Nat.le_of_ble_eq_true rfl) (Nat.le_of_ble_eq_true rfl) rfl (Nat.le_of_ble_eq_true rfl) (Nat.le_of_ble_eq_true rfl) (Nat.le_of_ble_eq_true rfl) dX7_readLines_140 rfl (fun v h41 hq => ?_)
                obtain ⟨r40, rfl, hw⟩ := hq
                refine G.cse (cs' := (0, 0)) rfl ?_
                show GZ _ _ _ _ _ _ _ 143 _ (.int r40 :: []) _ _
                have hw := wp_if hw
                refine G_if_eq (tgt := 153) dX7_readLines_143 rfl (fun c43 => ?_) (fun c43 => ?_)
                · have hw := hw.1 c43
                  refine G_aload_n dX7_readLines_153 rfl ?_
                  obtain ⟨c44, hw⟩ := wp_ck hw
                  refine G_getR fl_X7_tape w_561 dX7_readLines_154 c44 ?_
                  obtain ⟨a45, ea45, hw⟩ := wp_rq hw
                  refine G.sure ea45 ?_
                  refine G_getsW hs 13 rfl (by decide) w_819 dX7_readLines_157 ?_
                  obtain ⟨c48, hw⟩ := wp_ck hw
                  refine G_callV (As := [.ref (hW h41 13)]) (s_X5_isAt hs a45 (hW h41 13) h41 _ (wp_cl hw)) ca_X5_isAt w_703 w_704 (ci := 5) rfl (by decide) w_702 c48 (Nat.le_of_ble_eq_true rfl) (Nat.le_of_ble_eq_true rfl) rfl (Nat.le_of_ble_eq_true rfl) (Nat.le_of_ble_eq_true rfl) (Nat.le_of_ble_eq_true rfl) dX7_readLines_160 rfl (fun v h47 hq => ?_)
                  obtain ⟨r46, rfl, hw⟩ := hq
                  refine G.cse (cs' := (0, 0)) rfl ?_
                  show GZ _ _ _ _ _ _ _ 163 _ (.int r46 :: []) _ _
                  have hw := wp_if hw
                  refine G_if_eq (tgt := 173) dX7_readLines_163 rfl (fun c49 => ?_) (fun c49 => ?_)
                  · have hw := hw.1 c49
                    refine G_aload_n dX7_readLines_173 rfl ?_
                    obtain ⟨c50, hw⟩ := wp_ck hw
                    refine G_getR fl_X7_tape w_561 dX7_readLines_174 c50 ?_
                    obtain ⟨a51, ea51, hw⟩ := wp_rq hw
                    refine G.sure ea51 ?_
                    refine G_getsW hs 14 rfl (by decide) w_830 dX7_readLines_177 ?_
                    obtain ⟨c54, hw⟩ := wp_ck hw
                    refine G_callV (As := [.ref (hW h47 14)]) (s_X5_isAt hs a51 (hW h47 14) h47 _ (wp_cl hw)) ca_X5_isAt w_703 w_704 (ci := 5) rfl (by decide) w_702 c54 (Nat.le_of_ble_eq_true rfl) (Nat.le_of_ble_eq_true rfl) rfl (Nat.le_of_ble_eq_true rfl) (Nat.le_of_ble_eq_true rfl) (Nat.le_of_ble_eq_true rfl) dX7_readLines_180 rfl (fun v h53 hq => ?_)
                    obtain ⟨r52, rfl, hw⟩ := hq
                    refine G.cse (cs' := (0, 0)) rfl ?_
                    show GZ _ _ _ _ _ _ _ 183 _ (.int r52 :: []) _ _
                    have hw := wp_if hw
                    refine G_if_eq (tgt := 200) dX7_readLines_183 rfl (fun c55 => ?_) (fun c55 => ?_)
                    · have hw := hw.1 c55
                      refine G_aload_n dX7_readLines_200 rfl ?_
                      obtain ⟨c56, hw⟩ := wp_ck hw
                      refine G_getR fl_X7_tape w_561 dX7_readLines_201 c56 ?_
                      obtain ⟨a57, ea57, hw⟩ := wp_rq hw
                      refine G.sure ea57 ?_
                      refine G_getsW hs 15 rfl (by decide) w_893 dX7_readLines_204 ?_
                      obtain ⟨c60, hw⟩ := wp_ck hw
                      refine G_callV (As := [.ref (hW h53 15)]) (s_X5_isAt hs a57 (hW h53 15) h53 _ (wp_cl hw)) ca_X5_isAt w_703 w_704 (ci := 5) rfl (by decide) w_702 c60 (Nat.le_of_ble_eq_true rfl) (Nat.le_of_ble_eq_true rfl) rfl (Nat.le_of_ble_eq_true rfl) (Nat.le_of_ble_eq_true rfl) (Nat.le_of_ble_eq_true rfl) dX7_readLines_207 rfl (fun v h59 hq => ?_)
                      obtain ⟨r58, rfl, hw⟩ := hq
                      refine G.cse (cs' := (0, 0)) rfl ?_
                      show GZ _ _ _ _ _ _ _ 210 _ (.int r58 :: []) _ _
                      have hw := wp_if hw
                      refine G_if_eq (tgt := 227) dX7_readLines_210 rfl (fun c61 => ?_) (fun c61 => ?_)
                      · have hw := hw.1 c61
                        refine G_aload_n dX7_readLines_227 rfl ?_
                        obtain ⟨c62, hw⟩ := wp_ck hw
                        refine G_getR fl_X7_tape w_561 dX7_readLines_228 c62 ?_
                        obtain ⟨a63, ea63, hw⟩ := wp_rq hw
                        refine G.sure ea63 ?_
                        refine G_iconst (v := (1 : Int32)) dX7_readLines_231 (by decide) ?_
                        obtain ⟨c66, hw⟩ := wp_ck hw
                        refine G_callV (As := [.int (1 : Int32)]) (s_X5_fail hs a63 (1 : Int32) h59 _ (wp_cl hw)) ca_X5_fail w_715 w_716 (ci := 5) rfl (by decide) w_714 c66 (Nat.le_of_ble_eq_true rfl) (Nat.le_of_ble_eq_true rfl) rfl (Nat.le_of_ble_eq_true rfl) (Nat.le_of_ble_eq_true rfl) (Nat.le_of_ble_eq_true rfl) dX7_readLines_232 rfl (fun v h65 hq => ?_)
                        obtain ⟨rfl, hw⟩ := hq
                        refine G.cse (cs' := (0, 0)) rfl ?_
                        show GZ _ _ _ _ _ _ _ 235 _ [] _ _
                        refine G.less [some (.ref l0), some (.int l1)] ⟨rfl, ⟨rfl, trivial⟩⟩ ?_
                        exact f_X7_readLines_235_ok hs hK_16 _ _ h65 Q hw
                      · have hw := hw.2 c61
                        refine G_aload_n dX7_readLines_213 rfl ?_
                        refine G_aload_n dX7_readLines_214 rfl ?_
                        obtain ⟨c67, hw⟩ := wp_ck hw
                        refine G_getR fl_X7_valley w_562 dX7_readLines_215 c67 ?_
                        obtain ⟨a68, ea68, hw⟩ := wp_rq hw
                        refine G.sure ea68 ?_
                        obtain ⟨c69, hw⟩ := wp_ck hw
                        refine G_getNR fl_X6_soots w_464 dX7_readLines_218 c69 ?_
                        obtain ⟨a70, ea70, hw⟩ := wp_rq hw
                        refine G.sure ea70 ?_
                        refine G_callV (As := [.ref a70]) (s_X7_readLaw hs l0 a70 h59 _ (wp_cl hw)) ca_X7_readLaw w_834 w_13 (ci := 7) rfl (by decide) w_832 c67 (Nat.le_of_ble_eq_true rfl) (Nat.le_of_ble_eq_true rfl) rfl (Nat.le_of_ble_eq_true rfl) (Nat.le_of_ble_eq_true rfl) (Nat.le_of_ble_eq_true rfl) dX7_readLines_221 rfl (fun v h72 hq => ?_)
                        obtain ⟨rfl, hw⟩ := hq
                        refine G.cse (cs' := (0, 0)) rfl ?_
                        show GZ _ _ _ _ _ _ _ 224 _ [] _ _
                        refine G_goto (tgt := 235) dX7_readLines_224 rfl ?_
                        refine G.less [some (.ref l0), some (.int l1)] ⟨rfl, ⟨rfl, trivial⟩⟩ ?_
                        exact f_X7_readLines_235_ok hs hK_16 _ _ h72 Q hw
                    · have hw := hw.2 c55
                      refine G_aload_n dX7_readLines_186 rfl ?_
                      refine G_aload_n dX7_readLines_187 rfl ?_
                      obtain ⟨c73, hw⟩ := wp_ck hw
                      refine G_getR fl_X7_valley w_562 dX7_readLines_188 c73 ?_
                      obtain ⟨a74, ea74, hw⟩ := wp_rq hw
                      refine G.sure ea74 ?_
                      obtain ⟨c75, hw⟩ := wp_ck hw
                      refine G_getNR fl_X6_gives w_462 dX7_readLines_191 c75 ?_
                      obtain ⟨a76, ea76, hw⟩ := wp_rq hw
                      refine G.sure ea76 ?_
                      refine G_callV (As := [.ref a76]) (s_X7_readLaw hs l0 a76 h53 _ (wp_cl hw)) ca_X7_readLaw w_834 w_13 (ci := 7) rfl (by decide) w_832 c73 (Nat.le_of_ble_eq_true rfl) (Nat.le_of_ble_eq_true rfl) rfl (Nat.le_of_ble_eq_true rfl) (Nat.le_of_ble_eq_true rfl) (Nat.le_of_ble_eq_true rfl) dX7_readLines_194 rfl (fun v h78 hq => ?_)
                      obtain ⟨rfl, hw⟩ := hq
                      refine G.cse (cs' := (0, 0)) rfl ?_
                      show GZ _ _ _ _ _ _ _ 197 _ [] _ _
                      refine G_goto (tgt := 235) dX7_readLines_197 rfl ?_
                      refine G.less [some (.ref l0), some (.int l1)] ⟨rfl, ⟨rfl, trivial⟩⟩ ?_
                      exact f_X7_readLines_235_ok hs hK_16 _ _ h78 Q hw
                  · have hw := hw.2 c49
                    refine G_aload_n dX7_readLines_166 rfl ?_
                    obtain ⟨c81, hw⟩ := wp_ck hw
                    refine G_callV (As := []) (s_X7_readWinds hs l0 h47 _ (wp_cl hw)) ca_X7_readWinds w_823 w_11 (ci := 7) rfl (by decide) w_821 c81 (Nat.le_of_ble_eq_true rfl) (Nat.le_of_ble_eq_true rfl) rfl (Nat.le_of_ble_eq_true rfl) (Nat.le_of_ble_eq_true rfl) (Nat.le_of_ble_eq_true rfl) dX7_readLines_167 rfl (fun v h80 hq => ?_)
                    obtain ⟨rfl, hw⟩ := hq
                    refine G.cse (cs' := (0, 0)) rfl ?_
                    show GZ _ _ _ _ _ _ _ 170 _ [] _ _
                    refine G_goto (tgt := 235) dX7_readLines_170 rfl ?_
                    refine G.less [some (.ref l0), some (.int l1)] ⟨rfl, ⟨rfl, trivial⟩⟩ ?_
                    exact f_X7_readLines_235_ok hs hK_16 _ _ h80 Q hw
                · have hw := hw.2 c43
                  refine G_aload_n dX7_readLines_146 rfl ?_
                  obtain ⟨c84, hw⟩ := wp_ck hw
                  refine G_callV (As := []) (s_X7_readWatcher hs l0 h41 _ (wp_cl hw)) ca_X7_readWatcher w_813 w_10 (ci := 7) rfl (by decide) w_811 c84 (Nat.le_of_ble_eq_true rfl) (Nat.le_of_ble_eq_true rfl) rfl (Nat.le_of_ble_eq_true rfl) (Nat.le_of_ble_eq_true rfl) (Nat.le_of_ble_eq_true rfl) dX7_readLines_147 rfl (fun v h83 hq => ?_)
                  obtain ⟨rfl, hw⟩ := hq
                  refine G.cse (cs' := (0, 0)) rfl ?_
                  show GZ _ _ _ _ _ _ _ 150 _ [] _ _
                  refine G_goto (tgt := 235) dX7_readLines_150 rfl ?_
                  refine G.less [some (.ref l0), some (.int l1)] ⟨rfl, ⟨rfl, trivial⟩⟩ ?_
                  exact f_X7_readLines_235_ok hs hK_16 _ _ h83 Q hw
              · have hw := hw.2 c37
                refine G_aload_n dX7_readLines_126 rfl ?_
                obtain ⟨c87, hw⟩ := wp_ck hw
                refine G_callV (As := []) (s_X7_readSign hs l0 h35 _ (wp_cl hw)) ca_X7_readSign w_801 w_8 (ci := 7) rfl (by decide) w_799 c87 (Nat.le_of_ble_eq_true rfl) (Nat.le_of_ble_eq_true rfl) rfl (Nat.le_of_ble_eq_true rfl) (Nat.le_of_ble_eq_true rfl) (Nat.le_of_ble_eq_true rfl) dX7_readLines_127 rfl (fun v h86 hq => ?_)
                obtain ⟨rfl, hw⟩ := hq
                refine G.cse (cs' := (0, 0)) rfl ?_
                show GZ _ _ _ _ _ _ _ 130 _ [] _ _
                refine G_goto (tgt := 235) dX7_readLines_130 rfl ?_
                refine G.less [some (.ref l0), some (.int l1)] ⟨rfl, ⟨rfl, trivial⟩⟩ ?_
                exact f_X7_readLines_235_ok hs hK_16 _ _ h86 Q hw
            · have hw := hw.2 c31
              refine G_aload_n dX7_readLines_106 rfl ?_
              obtain ⟨c90, hw⟩ := wp_ck hw
              refine G_callV (As := []) (s_X7_readStock hs l0 h29 _ (wp_cl hw)) ca_X7_readStock w_795 w_7 (ci := 7) rfl (by decide) w_793 c90 (Nat.le_of_ble_eq_true rfl) (Nat.le_of_ble_eq_true rfl) rfl (Nat.le_of_ble_eq_true rfl) (Nat.le_of_ble_eq_true rfl) (Nat.le_of_ble_eq_true rfl) dX7_readLines_107 rfl (fun v h89 hq => ?_)
              obtain ⟨rfl, hw⟩ := hq
              refine G.cse (cs' := (0, 0)) rfl ?_
              show GZ _ _ _ _ _ _ _ 110 _ [] _ _
              refine G_goto (tgt := 235) dX7_readLines_110 rfl ?_
              refine G.less [some (.ref l0), some (.int l1)] ⟨rfl, ⟨rfl, trivial⟩⟩ ?_
              exact f_X7_readLines_235_ok hs hK_16 _ _ h89 Q hw
          · have hw := hw.2 c25
            refine G_aload_n dX7_readLines_86 rfl ?_
            obtain ⟨c93, hw⟩ := wp_ck hw
            refine G_callV (As := []) (s_X7_readHouse hs l0 h23 _ (wp_cl hw)) ca_X7_readHouse w_781 w_6 (ci := 7) rfl (by decide) w_779 c93 (Nat.le_of_ble_eq_true rfl) (Nat.le_of_ble_eq_true rfl) rfl (Nat.le_of_ble_eq_true rfl) (Nat.le_of_ble_eq_true rfl) (Nat.le_of_ble_eq_true rfl) dX7_readLines_87 rfl (fun v h92 hq => ?_)
            obtain ⟨rfl, hw⟩ := hq
            refine G.cse (cs' := (0, 0)) rfl ?_
            show GZ _ _ _ _ _ _ _ 90 _ [] _ _
            refine G_goto (tgt := 235) dX7_readLines_90 rfl ?_
            refine G.less [some (.ref l0), some (.int l1)] ⟨rfl, ⟨rfl, trivial⟩⟩ ?_
            exact f_X7_readLines_235_ok hs hK_16 _ _ h92 Q hw
        · have hw := hw.2 c19
          refine G_aload_n dX7_readLines_66 rfl ?_
          obtain ⟨c96, hw⟩ := wp_ck hw
          refine G_callV (As := []) (s_X7_readFlue hs l0 h17 _ (wp_cl hw)) ca_X7_readFlue w_775 w_5 (ci := 7) rfl (by decide) w_773 c96 (Nat.le_of_ble_eq_true rfl) (Nat.le_of_ble_eq_true rfl) rfl (Nat.le_of_ble_eq_true rfl) (Nat.le_of_ble_eq_true rfl) (Nat.le_of_ble_eq_true rfl) dX7_readLines_67 rfl (fun v h95 hq => ?_)
          obtain ⟨rfl, hw⟩ := hq
          refine G.cse (cs' := (0, 0)) rfl ?_
          show GZ _ _ _ _ _ _ _ 70 _ [] _ _
          refine G_goto (tgt := 235) dX7_readLines_70 rfl ?_
          refine G.less [some (.ref l0), some (.int l1)] ⟨rfl, ⟨rfl, trivial⟩⟩ ?_
          exact f_X7_readLines_235_ok hs hK_16 _ _ h95 Q hw
      · have hw := hw.2 c13
        refine G_aload_n dX7_readLines_46 rfl ?_
        obtain ⟨c99, hw⟩ := wp_ck hw
        refine G_callV (As := []) (s_X7_readFuel hs l0 h11 _ (wp_cl hw)) ca_X7_readFuel w_708 w_2 (ci := 7) rfl (by decide) w_706 c99 (Nat.le_of_ble_eq_true rfl) (Nat.le_of_ble_eq_true rfl) rfl (Nat.le_of_ble_eq_true rfl) (Nat.le_of_ble_eq_true rfl) (Nat.le_of_ble_eq_true rfl) dX7_readLines_47 rfl (fun v h98 hq => ?_)
        obtain ⟨rfl, hw⟩ := hq
        refine G.cse (cs' := (0, 0)) rfl ?_
        show GZ _ _ _ _ _ _ _ 50 _ [] _ _
        refine G_goto (tgt := 235) dX7_readLines_50 rfl ?_
        refine G.less [some (.ref l0), some (.int l1)] ⟨rfl, ⟨rfl, trivial⟩⟩ ?_
        exact f_X7_readLines_235_ok hs hK_16 _ _ h98 Q hw
theorem f_X7_readLines_16_ok {Γ : GX} (hs : SF Γ) {N : Nat} : ∀ (n : Nat) (l0 : Nat) (l1 : Int32) (h : PH) (Q : Unit → PH → Prop), wp (f_X7_readLines_16 N n l0 l1 h) Q → G Γ yX7_readLines cX7_readLines 2 none (49, 0, 0) 16 [some (.ref l0), some (.int l1)] [] h (0, 0) (q_u Q)
  | 0, _, _, _, Q, hw => (wp_no hw).elim
  | n + 1, l0, l1, h, Q, hw => f_X7_readLines_16_bok (N := N) hs (f_X7_readLines_16_ok (N := N) hs n) l0 l1 h Q hw
set_option maxHeartbeats 4000000 in
set_option maxRecDepth 100000 in
theorem s_X7_readLines {Γ : GX} (hs : SF Γ) {N : Nat} (l0 : Nat) (h : PH) (Q : Unit → PH → Prop) (hw : wp (f_X7_readLines N l0 h) Q) : Spec Γ yX7_readLines cX7_readLines 2 none (49, 0, 0) [.ref l0] h (q_u Q) := by
  refine Spec.of (by decide) (Nat.le_of_ble_eq_true rfl) [some (.ref l0), none] rfl ?_
  unfold f_X7_readLines at hw
  refine G_aload_n dX7_readLines_0 rfl ?_
  obtain ⟨c1, hw⟩ := wp_ck hw
  refine G_getR fl_X7_valley w_562 dX7_readLines_1 c1 ?_
  obtain ⟨a2, ea2, hw⟩ := wp_rq hw
  refine G.sure ea2 ?_
  obtain ⟨c5, hw⟩ := wp_ck hw
  refine G_callV (As := []) (s_X6_clear hs a2 h _ (wp_cl hw)) ca_X6_clear w_573 w_574 (ci := 6) rfl (by decide) w_572 c5 (Nat.le_of_ble_eq_true rfl) (Nat.le_of_ble_eq_true rfl) rfl (Nat.le_of_ble_eq_true rfl) (Nat.le_of_ble_eq_true rfl) (Nat.le_of_ble_eq_true rfl) dX7_readLines_4 rfl (fun v h4 hq => ?_)
  obtain ⟨rfl, hw⟩ := hq
  refine G.cse (cs' := (0, 0)) rfl ?_
  show GZ _ _ _ _ _ _ _ 7 _ [] _ _
  refine G_aload_n dX7_readLines_7 rfl ?_
  obtain ⟨c6, hw⟩ := wp_ck hw
  refine G_getR fl_X7_tape w_561 dX7_readLines_8 c6 ?_
  obtain ⟨a7, ea7, hw⟩ := wp_rq hw
  refine G.sure ea7 ?_
  obtain ⟨c10, hw⟩ := wp_ck hw
  refine G_callV (As := []) (s_X5_open hs a7 h4 _ (wp_cl hw)) ca_X5_open w_582 w_583 (ci := 5) rfl (by decide) w_581 c10 (Nat.le_of_ble_eq_true rfl) (Nat.le_of_ble_eq_true rfl) rfl (Nat.le_of_ble_eq_true rfl) (Nat.le_of_ble_eq_true rfl) (Nat.le_of_ble_eq_true rfl) dX7_readLines_11 rfl (fun v h9 hq => ?_)
  obtain ⟨rfl, hw⟩ := hq
  refine G.cse (cs' := (0, 0)) rfl ?_
  show GZ _ _ _ _ _ _ _ 14 _ [] _ _
  refine G_iconst (v := (0 : Int32)) dX7_readLines_14 (by decide) ?_
  refine G_istore_n (lv' := [some (.ref l0), some (.int (0 : Int32))]) dX7_readLines_15 (Nat.le_of_ble_eq_true rfl) rfl ?_
  refine G.less [some (.ref l0), some (.int (0 : Int32))] ⟨rfl, ⟨rfl, trivial⟩⟩ ?_
  exact f_X7_readLines_16_ok hs N _ _ h9 Q hw
set_option maxHeartbeats 4000000 in
set_option maxRecDepth 100000 in
theorem s_X5_close {Γ : GX} (hs : SF Γ) {N : Nat} (l0 : Nat) (h : PH) (Q : Int32 → PH → Prop) (hw : wp (f_X5_close N l0 h) Q) : Spec Γ yX5_close cX5_close 1 (some .int) (1, 0, 0) [.ref l0] h (q_i Q) := by
  refine Spec.of (by decide) (Nat.le_of_ble_eq_true rfl) [some (.ref l0)] rfl ?_
  unfold f_X5_close at hw
  refine G_aload_n dX5_close_0 rfl ?_
  refine G_iconst (v := (0 : Int32)) dX5_close_1 (by decide) ?_
  obtain ⟨c1, hw⟩ := wp_ck hw
  refine G_putI fl_X5_length w_170 dX5_close_2 c1 ?_
  refine G.nmh fun h2 eh2 => ?_
  have hw := wp_bd hw h2 eh2
  refine G_aload_n dX5_close_5 rfl ?_
  obtain ⟨c3, hw⟩ := wp_ck hw
  refine G_getI fl_X5_fault w_180 dX5_close_6 c3 ?_
  exact G_ireturn rfl dX5_close_9 ⟨_, rfl, wp_ret hw⟩
set_option maxHeartbeats 4000000 in
set_option maxRecDepth 100000 in
theorem s_X4_begin {Γ : GX} (hs : SF Γ) {N : Nat} (l0 : Nat) (l1 : Nat) (h : PH) (Q : Unit → PH → Prop) (hw : wp (f_X4_begin N l0 l1 h) Q) : Spec Γ yX4_begin cX4_begin 2 none (2, 0, 0) [.ref l0, .ref l1] h (q_u Q) := by
  refine Spec.of (by decide) (Nat.le_of_ble_eq_true rfl) [some (.ref l0), some (.ref l1)] rfl ?_
  unfold f_X4_begin at hw
  refine G_aload_n dX4_begin_0 rfl ?_
  refine G_iconst (v := (0 : Int32)) dX4_begin_1 (by decide) ?_
  obtain ⟨c1, hw⟩ := wp_ck hw
  refine G_putI fl_X4_hour w_216 dX4_begin_2 c1 ?_
  refine G.nmh fun h2 eh2 => ?_
  have hw := wp_bd hw h2 eh2
  refine G_aload_n dX4_begin_5 rfl ?_
  obtain ⟨c3, hw⟩ := wp_ck hw
  refine G_getNR fl_X6_stock w_447 dX4_begin_6 c3 ?_
  obtain ⟨a4, ea4, hw⟩ := wp_rq hw
  refine G.sure ea4 ?_
  refine G_iconst (v := (0 : Int32)) dX4_begin_9 (by decide) ?_
  refine G_aload_n dX4_begin_10 rfl ?_
  obtain ⟨c5, hw⟩ := wp_ck hw
  refine G_getR fl_X4_stock w_220 dX4_begin_11 c5 ?_
  obtain ⟨a6, ea6, hw⟩ := wp_rq hw
  refine G.sure ea6 ?_
  refine G_iconst (v := (0 : Int32)) dX4_begin_14 (by decide) ?_
  refine G_aload_n dX4_begin_15 rfl ?_
  refine G_getR fl_X4_stock w_220 dX4_begin_16 c5 ?_
  obtain ⟨a7, ea7, hw⟩ := wp_rq hw
  refine G.sure ea7 ?_
  obtain ⟨c8, hw⟩ := wp_ck hw
  refine G_alen12 dX4_begin_19 c8 ?_
  obtain ⟨c9, hw⟩ := wp_ck hw
  obtain ⟨c10, hw⟩ := wp_ck hw
  obtain ⟨c11, hw⟩ := wp_ck hw
  obtain ⟨c12, hw⟩ := wp_ck hw
  obtain ⟨c13, hw⟩ := wp_ck hw
  refine G_acopy w_907 w_909 w_908 w_148 c9 c10 (by decide) (by decide) c11 c12 c13 dX4_begin_20 (Nat.le_of_ble_eq_true rfl) (Nat.le_of_ble_eq_true rfl) ?_
  refine G.nmh fun h14 eh14 => ?_
  have hw := wp_bd hw h14 eh14
  refine G_aload_n dX4_begin_23 rfl ?_
  obtain ⟨c15, hw⟩ := wp_ck hw
  refine G_getR fl_X4_fuel w_221 dX4_begin_24 c15 ?_
  obtain ⟨a16, ea16, hw⟩ := wp_rq hw
  refine G.sure ea16 ?_
  refine G_iconst (v := (-1 : Int32)) dX4_begin_27 (by decide) ?_
  refine G_callS (As := [.ref a16, .int (-1 : Int32)]) (s_J7_fill_53178 hs a16 (-1 : Int32) h14 _ (wp_cl hw)) ca_J7_fill_53178 w_214 w_213 (Nat.le_of_ble_eq_true rfl) (Nat.le_of_ble_eq_true rfl) rfl (Nat.le_of_ble_eq_true rfl) (Nat.le_of_ble_eq_true rfl) (Nat.le_of_ble_eq_true rfl) dX4_begin_28 rfl (fun v h18 hq => ?_)
  obtain ⟨rfl, hw⟩ := hq
  refine G.cse (cs' := (0, 0)) rfl ?_
  show GZ _ _ _ _ _ _ _ 31 _ [] _ _
  refine G_aload_n dX4_begin_31 rfl ?_
  obtain ⟨c19, hw⟩ := wp_ck hw
  refine G_getR fl_X4_left w_224 dX4_begin_32 c19 ?_
  obtain ⟨a20, ea20, hw⟩ := wp_rq hw
  refine G.sure ea20 ?_
  refine G_iconst (v := (0 : Int32)) dX4_begin_35 (by decide) ?_
  refine G_callS (As := [.ref a20, .int (0 : Int32)]) (s_J7_fill_53178 hs a20 (0 : Int32) h18 _ (wp_cl hw)) ca_J7_fill_53178 w_214 w_213 (Nat.le_of_ble_eq_true rfl) (Nat.le_of_ble_eq_true rfl) rfl (Nat.le_of_ble_eq_true rfl) (Nat.le_of_ble_eq_true rfl) (Nat.le_of_ble_eq_true rfl) dX4_begin_36 rfl (fun v h22 hq => ?_)
  obtain ⟨rfl, hw⟩ := hq
  refine G.cse (cs' := (0, 0)) rfl ?_
  show GZ _ _ _ _ _ _ _ 39 _ [] _ _
  refine G_aload_n dX4_begin_39 rfl ?_
  obtain ⟨c23, hw⟩ := wp_ck hw
  refine G_getR fl_X4_soot w_227 dX4_begin_40 c23 ?_
  obtain ⟨a24, ea24, hw⟩ := wp_rq hw
  refine G.sure ea24 ?_
  refine G_iconst (v := (0 : Int32)) dX4_begin_43 (by decide) ?_
  refine G_callS (As := [.ref a24, .int (0 : Int32)]) (s_J7_fill_53178 hs a24 (0 : Int32) h22 _ (wp_cl hw)) ca_J7_fill_53178 w_214 w_213 (Nat.le_of_ble_eq_true rfl) (Nat.le_of_ble_eq_true rfl) rfl (Nat.le_of_ble_eq_true rfl) (Nat.le_of_ble_eq_true rfl) (Nat.le_of_ble_eq_true rfl) dX4_begin_44 rfl (fun v h26 hq => ?_)
  obtain ⟨rfl, hw⟩ := hq
  refine G.cse (cs' := (0, 0)) rfl ?_
  show GZ _ _ _ _ _ _ _ 47 _ [] _ _
  exact G_vreturn rfl dX4_begin_47 ⟨rfl, wp_ret hw⟩
set_option maxHeartbeats 4000000 in
set_option maxRecDepth 100000 in
theorem s_X0_clear {Γ : GX} (hs : SF Γ) {N : Nat} (l0 : Nat) (h : PH) (Q : Unit → PH → Prop) (hw : wp (f_X0_clear N l0 h) Q) : Spec Γ yX0_clear cX0_clear 1 none (1, 0, 0) [.ref l0] h (q_u Q) := by
  refine Spec.of (by decide) (Nat.le_of_ble_eq_true rfl) [some (.ref l0)] rfl ?_
  unfold f_X0_clear at hw
  refine G_aload_n dX0_clear_0 rfl ?_
  refine G_iconst (v := (0 : Int32)) dX0_clear_1 (by decide) ?_
  obtain ⟨c1, hw⟩ := wp_ck hw
  refine G_putI fl_X0_lines w_248 dX0_clear_2 c1 ?_
  refine G.nmh fun h2 eh2 => ?_
  have hw := wp_bd hw h2 eh2
  exact G_vreturn rfl dX0_clear_5 ⟨rfl, wp_ret hw⟩
set_option maxHeartbeats 4000000 in
set_option maxRecDepth 100000 in
theorem s_X2_begin {Γ : GX} (hs : SF Γ) {N : Nat} (l0 : Nat) (l1 : Nat) (h : PH) (Q : Unit → PH → Prop) (hw : wp (f_X2_begin N l0 l1 h) Q) : Spec Γ yX2_begin cX2_begin 2 none (3, 0, 0) [.ref l0, .ref l1] h (q_u Q) := by
  refine Spec.of (by decide) (Nat.le_of_ble_eq_true rfl) [some (.ref l0), some (.ref l1)] rfl ?_
  unfold f_X2_begin at hw
  refine G_aload_n dX2_begin_0 rfl ?_
  obtain ⟨c1, hw⟩ := wp_ck hw
  refine G_getR fl_X2_state w_255 dX2_begin_1 c1 ?_
  obtain ⟨a2, ea2, hw⟩ := wp_rq hw
  refine G.sure ea2 ?_
  refine G_aload_n dX2_begin_4 rfl ?_
  obtain ⟨c5, hw⟩ := wp_ck hw
  refine G_callV (As := [.ref l1]) (s_X4_begin hs a2 l1 h _ (wp_cl hw)) ca_X4_begin w_904 w_905 (ci := 4) rfl (by decide) w_903 c5 (Nat.le_of_ble_eq_true rfl) (Nat.le_of_ble_eq_true rfl) rfl (Nat.le_of_ble_eq_true rfl) (Nat.le_of_ble_eq_true rfl) (Nat.le_of_ble_eq_true rfl) dX2_begin_5 rfl (fun v h4 hq => ?_)
  obtain ⟨rfl, hw⟩ := hq
  refine G.cse (cs' := (0, 0)) rfl ?_
  show GZ _ _ _ _ _ _ _ 8 _ [] _ _
  refine G_aload_n dX2_begin_8 rfl ?_
  obtain ⟨c6, hw⟩ := wp_ck hw
  refine G_getR fl_X2_day w_258 dX2_begin_9 c6 ?_
  obtain ⟨a7, ea7, hw⟩ := wp_rq hw
  refine G.sure ea7 ?_
  obtain ⟨c10, hw⟩ := wp_ck hw
  refine G_callV (As := []) (s_X0_clear hs a7 h4 _ (wp_cl hw)) ca_X0_clear w_911 w_912 (ci := 0) rfl (by decide) w_910 c10 (Nat.le_of_ble_eq_true rfl) (Nat.le_of_ble_eq_true rfl) rfl (Nat.le_of_ble_eq_true rfl) (Nat.le_of_ble_eq_true rfl) (Nat.le_of_ble_eq_true rfl) dX2_begin_12 rfl (fun v h9 hq => ?_)
  obtain ⟨rfl, hw⟩ := hq
  refine G.cse (cs' := (0, 0)) rfl ?_
  show GZ _ _ _ _ _ _ _ 15 _ [] _ _
  refine G_aload_n dX2_begin_15 rfl ?_
  refine G_iconst (v := (0 : Int32)) dX2_begin_16 (by decide) ?_
  obtain ⟨c11, hw⟩ := wp_ck hw
  refine G_putI fl_X2_reads w_263 dX2_begin_17 c11 ?_
  refine G.nmh fun h12 eh12 => ?_
  have hw := wp_bd hw h12 eh12
  exact G_vreturn rfl dX2_begin_20 ⟨rfl, wp_ret hw⟩
set_option maxHeartbeats 4000000 in
set_option maxRecDepth 100000 in
theorem s_X10_valley {Γ : GX} (hs : SF Γ) {N : Nat} (l0 : Nat) (h : PH) (Q : Int32 → PH → Prop) (hw : wp (f_X10_valley N l0 h) Q) : Spec Γ yX10_valley cX10_valley 4 (some .int) (50, 1, 2) [.ref l0] h (q_i Q) := by
  refine Spec.of (by decide) (Nat.le_of_ble_eq_true rfl) [some (.ref l0), none, none, none] rfl ?_
  unfold f_X10_valley at hw
  refine G_new kl_X7 w_555 dX10_valley_0 (Nat.le_of_ble_eq_true rfl) (Nat.le_of_ble_eq_true rfl) ?_
  refine G.cse (cs' := (1, 2)) rfl ?_
  obtain ⟨a1, ea1⟩ : ∃ z : Nat, z = hz h := ⟨_, rfl⟩
  rw [← ea1]
  have hw := wp_bd hw a1 ea1
  refine G.nmh fun h2 eh2 => ?_
  have hw := wp_bd hw h2 eh2
  refine G_dup dX10_valley_3 rfl ?_
  refine G_aload_n dX10_valley_4 rfl ?_
  obtain ⟨c3, hw⟩ := wp_ck hw
  refine G_getR fl_X10_tape w_497 dX10_valley_5 c3 ?_
  obtain ⟨a4, ea4, hw⟩ := wp_rq hw
  refine G.sure ea4 ?_
  refine G_aload_n dX10_valley_8 rfl ?_
  refine G_getR fl_X10_spareValley w_508 dX10_valley_9 c3 ?_
  obtain ⟨a5, ea5, hw⟩ := wp_rq hw
  refine G.sure ea5 ?_
  refine G_callI (As := [.ref a4, .ref a5]) (s_X7_init hs a1 a4 a5 h2 _ (wp_cl hw)) ca_X7_init rfl w_558 w_557 (Nat.le_of_ble_eq_true rfl) (Nat.le_of_ble_eq_true rfl) rfl (Nat.le_of_ble_eq_true rfl) (Nat.le_of_ble_eq_true rfl) (Nat.le_of_ble_eq_true rfl) dX10_valley_12 rfl (fun v h7 hq => ?_)
  obtain ⟨rfl, hw⟩ := hq
  refine G.cse (cs' := (1, 2)) rfl ?_
  show GZ _ _ _ _ _ _ _ 15 _ [.ref a1] _ _
  refine G_astore_n (lv' := [some (.ref l0), some (.ref a1), none, none]) dX10_valley_15 (Nat.le_of_ble_eq_true rfl) rfl ?_
  refine G_aload_n dX10_valley_16 rfl ?_
  obtain ⟨c10, hw⟩ := wp_ck hw
  refine G_callV (As := []) (s_X7_readLines hs a1 h7 _ (wp_cl hw)) ca_X7_readLines w_569 w_570 (ci := 7) rfl (by decide) w_568 c10 (Nat.le_of_ble_eq_true rfl) (Nat.le_of_ble_eq_true rfl) rfl (Nat.le_of_ble_eq_true rfl) (Nat.le_of_ble_eq_true rfl) (Nat.le_of_ble_eq_true rfl) dX10_valley_17 rfl (fun v h9 hq => ?_)
  obtain ⟨rfl, hw⟩ := hq
  refine G.cse (cs' := (1, 2)) rfl ?_
  show GZ _ _ _ _ _ _ _ 20 _ [] _ _
  refine G_aload_n dX10_valley_20 rfl ?_
  obtain ⟨c11, hw⟩ := wp_ck hw
  refine G_getR fl_X10_tape w_497 dX10_valley_21 c11 ?_
  obtain ⟨a12, ea12, hw⟩ := wp_rq hw
  refine G.sure ea12 ?_
  obtain ⟨c15, hw⟩ := wp_ck hw
  refine G_callV (As := []) (s_X5_close hs a12 h9 _ (wp_cl hw)) ca_X5_close w_896 w_897 (ci := 5) rfl (by decide) w_895 c15 (Nat.le_of_ble_eq_true rfl) (Nat.le_of_ble_eq_true rfl) rfl (Nat.le_of_ble_eq_true rfl) (Nat.le_of_ble_eq_true rfl) (Nat.le_of_ble_eq_true rfl) dX10_valley_24 rfl (fun v h14 hq => ?_)
  obtain ⟨r13, rfl, hw⟩ := hq
  refine G.cse (cs' := (1, 2)) rfl ?_
  show GZ _ _ _ _ _ _ _ 27 _ (.int r13 :: []) _ _
  refine G_istore_n (lv' := [some (.ref l0), some (.ref a1), some (.int r13), none]) dX10_valley_27 (Nat.le_of_ble_eq_true rfl) rfl ?_
  refine G_iload_n dX10_valley_28 rfl ?_
  have hw := wp_if hw
  refine G_if_ne (tgt := 71) dX10_valley_29 rfl (fun c16 => ?_) (fun c16 => ?_)
  · have hw := hw.2 c16
    refine G_iload_n dX10_valley_71 rfl ?_
    exact G_ireturn rfl dX10_valley_72 ⟨_, rfl, wp_ret hw⟩
  · have hw := hw.1 c16
    refine G_aload_n dX10_valley_32 rfl ?_
    obtain ⟨c17, hw⟩ := wp_ck hw
    refine G_getR fl_X10_valley w_507 dX10_valley_33 c17 ?_
    obtain ⟨a18, ea18, hw⟩ := wp_rq hw
    refine G.sure ea18 ?_
    refine G_astore_n (lv' := [some (.ref l0), some (.ref a1), some (.int r13), some (.ref a18)]) dX10_valley_36 (Nat.le_of_ble_eq_true rfl) rfl ?_
    refine G_aload_n dX10_valley_37 rfl ?_
    refine G_aload_n dX10_valley_38 rfl ?_
    refine G_getR fl_X10_spareValley w_508 dX10_valley_39 c17 ?_
    obtain ⟨a19, ea19, hw⟩ := wp_rq hw
    refine G.sure ea19 ?_
    refine G_putR (v := (some a19)) fl_X10_valley (Or.inl ⟨_, rfl⟩) w_507 dX10_valley_42 c17 ?_
    refine G.nmh fun h20 eh20 => ?_
    have hw := wp_bd hw h20 eh20
    refine G_aload_n dX10_valley_45 rfl ?_
    refine G_aload_n dX10_valley_46 rfl ?_
    obtain ⟨c21, hw⟩ := wp_ck hw
    refine G_putR (v := (some a18)) fl_X10_spareValley (Or.inl ⟨_, rfl⟩) w_508 dX10_valley_47 c21 ?_
    refine G.nmh fun h22 eh22 => ?_
    have hw := wp_bd hw h22 eh22
    refine G_aload_n dX10_valley_50 rfl ?_
    obtain ⟨c23, hw⟩ := wp_ck hw
    refine G_getR fl_X10_now w_498 dX10_valley_51 c23 ?_
    obtain ⟨a24, ea24, hw⟩ := wp_rq hw
    refine G.sure ea24 ?_
    refine G_aload_n dX10_valley_54 rfl ?_
    refine G_getR fl_X10_valley w_507 dX10_valley_55 c23 ?_
    obtain ⟨a25, ea25, hw⟩ := wp_rq hw
    refine G.sure ea25 ?_
    obtain ⟨c28, hw⟩ := wp_ck hw
    refine G_callV (As := [.ref a25]) (s_X2_begin hs a24 a25 h22 _ (wp_cl hw)) ca_X2_begin w_900 w_901 (ci := 2) rfl (by decide) w_899 c28 (Nat.le_of_ble_eq_true rfl) (Nat.le_of_ble_eq_true rfl) rfl (Nat.le_of_ble_eq_true rfl) (Nat.le_of_ble_eq_true rfl) (Nat.le_of_ble_eq_true rfl) dX10_valley_58 rfl (fun v h27 hq => ?_)
    obtain ⟨rfl, hw⟩ := hq
    refine G.cse (cs' := (1, 2)) rfl ?_
    show GZ _ _ _ _ _ _ _ 61 _ [] _ _
    refine G_aload_n dX10_valley_61 rfl ?_
    refine G_iconst (v := (0 : Int32)) dX10_valley_62 (by decide) ?_
    obtain ⟨c29, hw⟩ := wp_ck hw
    refine G_putI fl_X10_pastCount w_511 dX10_valley_63 c29 ?_
    refine G.nmh fun h30 eh30 => ?_
    have hw := wp_bd hw h30 eh30
    refine G_aload_n dX10_valley_66 rfl ?_
    refine G_iconst (v := (0 : Int32)) dX10_valley_67 (by decide) ?_
    obtain ⟨c31, hw⟩ := wp_ck hw
    refine G_putI fl_X10_laid w_509 dX10_valley_68 c31 ?_
    refine G.nmh fun h32 eh32 => ?_
    have hw := wp_bd hw h32 eh32
    refine G_iload_n dX10_valley_71 rfl ?_
    exact G_ireturn rfl dX10_valley_72 ⟨_, rfl, wp_ret hw⟩
set_option maxHeartbeats 4000000 in
set_option maxRecDepth 100000 in
theorem f_X0_readHouse_22_ok {Γ : GX} (hs : SF Γ) {N : Nat} (l0 : Nat) (l3 : Int32) (h : PH) (Q : Int32 → PH → Prop) (hw : wp (f_X0_readHouse_22 N l0 l3 h) Q) : G Γ yX0_readHouse cX0_readHouse 4 (some .int) (6, 0, 0) 22 [some (.ref l0), none, none, some (.int l3)] [] h (0, 0) (q_i Q) := by
  unfold f_X0_readHouse_22 at hw
  refine G_aload_n dX0_readHouse_22 rfl ?_
  obtain ⟨c3, hw⟩ := wp_ck hw
  refine G_callV (As := []) (s_X5_step hs l0 h _ (wp_cl hw)) ca_X5_step w_586 w_587 (ci := 5) rfl (by decide) w_937 c3 (Nat.le_of_ble_eq_true rfl) (Nat.le_of_ble_eq_true rfl) rfl (Nat.le_of_ble_eq_true rfl) (Nat.le_of_ble_eq_true rfl) (Nat.le_of_ble_eq_true rfl) dX0_readHouse_23 rfl (fun v h2 hq => ?_)
  obtain ⟨rfl, hw⟩ := hq
  refine G.cse (cs' := (0, 0)) rfl ?_
  show GZ _ _ _ _ _ _ _ 26 _ [] _ _
  refine G_iload_n dX0_readHouse_26 rfl ?_
  exact G_ireturn rfl dX0_readHouse_27 ⟨_, rfl, wp_ret hw⟩
set_option maxHeartbeats 4000000 in
set_option maxRecDepth 100000 in
theorem s_X0_readHouse {Γ : GX} (hs : SF Γ) {N : Nat} (l0 : Nat) (l1 : Nat) (l2 : Int32) (h : PH) (Q : Int32 → PH → Prop) (hw : wp (f_X0_readHouse N l0 l1 l2 h) Q) : Spec Γ yX0_readHouse cX0_readHouse 4 (some .int) (6, 0, 0) [.ref l0, .ref l1, .int l2] h (q_i Q) := by
  refine Spec.of (by decide) (Nat.le_of_ble_eq_true rfl) [some (.ref l0), some (.ref l1), some (.int l2), none] rfl ?_
  unfold f_X0_readHouse at hw
  refine G_aload_n dX0_readHouse_0 rfl ?_
  refine G_aload_n dX0_readHouse_1 rfl ?_
  refine G_iconst (v := (2 : Int32)) dX0_readHouse_2 (by decide) ?_
  obtain ⟨c3, hw⟩ := wp_ck hw
  refine G_callV (As := [.ref l1, .int (2 : Int32)]) (s_X5_toldHere hs l0 l1 (2 : Int32) h _ (wp_cl hw)) ca_X5_toldHere w_786 w_787 (ci := 5) rfl (by decide) w_941 c3 (Nat.le_of_ble_eq_true rfl) (Nat.le_of_ble_eq_true rfl) rfl (Nat.le_of_ble_eq_true rfl) (Nat.le_of_ble_eq_true rfl) (Nat.le_of_ble_eq_true rfl) dX0_readHouse_3 rfl (fun v h2 hq => ?_)
  obtain ⟨r1, rfl, hw⟩ := hq
  refine G.cse (cs' := (0, 0)) rfl ?_
  show GZ _ _ _ _ _ _ _ 6 _ (.int r1 :: []) _ _
  refine G_istore_n (lv' := [some (.ref l0), some (.ref l1), some (.int l2), some (.int r1)]) dX0_readHouse_6 (Nat.le_of_ble_eq_true rfl) rfl ?_
  refine G_iload_n dX0_readHouse_7 rfl ?_
  refine G_iconst (v := (-1 : Int32)) dX0_readHouse_8 (by decide) ?_
  have hw := wp_if hw
  refine G_icmp_eq (tgt := 22) dX0_readHouse_9 rfl (fun c4 => ?_) (fun c4 => ?_)
  · have hw := hw.1 c4
    refine G.less [some (.ref l0), none, none, some (.int r1)] ⟨rfl, ⟨rfl, trivial⟩⟩ ?_
    exact f_X0_readHouse_22_ok hs _ _ h2 Q hw
  · have hw := hw.2 c4
    refine G_iload_n dX0_readHouse_12 rfl ?_
    refine G_iload_n dX0_readHouse_13 rfl ?_
    have hw := wp_if hw
    refine G_icmp_ne (tgt := 22) dX0_readHouse_14 rfl (fun c5 => ?_) (fun c5 => ?_)
    · have hw := hw.2 c5
      refine G.less [some (.ref l0), none, none, some (.int r1)] ⟨rfl, ⟨rfl, trivial⟩⟩ ?_
      exact f_X0_readHouse_22_ok hs _ _ h2 Q hw
    · have hw := hw.1 c5
      refine G_aload_n dX0_readHouse_17 rfl ?_
      refine G_iconst (v := (3 : Int32)) dX0_readHouse_18 (by decide) ?_
      obtain ⟨c8, hw⟩ := wp_ck hw
      refine G_callV (As := [.int (3 : Int32)]) (s_X5_fail hs l0 (3 : Int32) h2 _ (wp_cl hw)) ca_X5_fail w_715 w_716 (ci := 5) rfl (by decide) w_936 c8 (Nat.le_of_ble_eq_true rfl) (Nat.le_of_ble_eq_true rfl) rfl (Nat.le_of_ble_eq_true rfl) (Nat.le_of_ble_eq_true rfl) (Nat.le_of_ble_eq_true rfl) dX0_readHouse_19 rfl (fun v h7 hq => ?_)
      obtain ⟨rfl, hw⟩ := hq
      refine G.cse (cs' := (0, 0)) rfl ?_
      show GZ _ _ _ _ _ _ _ 22 _ [] _ _
      refine G.less [some (.ref l0), none, none, some (.int r1)] ⟨rfl, ⟨rfl, trivial⟩⟩ ?_
      exact f_X0_readHouse_22_ok hs _ _ h7 Q hw
set_option maxHeartbeats 4000000 in
set_option maxRecDepth 100000 in
theorem f_X0_readLine_146_ok {Γ : GX} (hs : SF Γ) {N : Nat} (s0 : Int32) (l0 : Nat) (l1 : Nat) (l3 : Int32) (l4 : Int32) (l5 : Int32) (l6 : Int32) (h : PH) (Q : Unit → PH → Prop) (hw : wp (f_X0_readLine_146 N s0 l0 l1 l3 l4 l5 l6 h) Q) : G Γ yX0_readLine cX0_readLine 9 none (7, 0, 0) 146 [some (.ref l0), some (.ref l1), none, some (.int l3), some (.int l4), some (.int l5), some (.int l6), none, none] [.int s0] h (0, 0) (q_u Q) := by
  unfold f_X0_readLine_146 at hw
  refine G_istore (lv' := [some (.ref l0), some (.ref l1), none, some (.int l3), some (.int l4), some (.int l5), some (.int l6), some (.int s0), none]) dX0_readLine_146 (Nat.le_of_ble_eq_true rfl) rfl ?_
  refine G_aload_n dX0_readLine_148 rfl ?_
  refine G_bipush (v := (59 : Int32)) dX0_readLine_149 (by decide) ?_
  obtain ⟨c3, hw⟩ := wp_ck hw
  refine G_callV (As := [.int (59 : Int32)]) (s_X5_expectSign hs l1 (59 : Int32) h _ (wp_cl hw)) ca_X5_expectSign w_756 w_757 (ci := 5) rfl (by decide) w_943 c3 (Nat.le_of_ble_eq_true rfl) (Nat.le_of_ble_eq_true rfl) rfl (Nat.le_of_ble_eq_true rfl) (Nat.le_of_ble_eq_true rfl) (Nat.le_of_ble_eq_true rfl) dX0_readLine_151 rfl (fun v h2 hq => ?_)
  obtain ⟨rfl, hw⟩ := hq
  refine G.cse (cs' := (0, 0)) rfl ?_
  show GZ _ _ _ _ _ _ _ 154 _ [] _ _
  refine G_aload_n dX0_readLine_154 rfl ?_
  obtain ⟨c6, hw⟩ := wp_ck hw
  refine G_callV (As := []) (s_X5_isSound hs l1 h2 _ (wp_cl hw)) ca_X5_isSound w_764 w_765 (ci := 5) rfl (by decide) w_944 c6 (Nat.le_of_ble_eq_true rfl) (Nat.le_of_ble_eq_true rfl) rfl (Nat.le_of_ble_eq_true rfl) (Nat.le_of_ble_eq_true rfl) (Nat.le_of_ble_eq_true rfl) dX0_readLine_155 rfl (fun v h5 hq => ?_)
  obtain ⟨r4, rfl, hw⟩ := hq
  refine G.cse (cs' := (0, 0)) rfl ?_
  show GZ _ _ _ _ _ _ _ 158 _ (.int r4 :: []) _ _
  have hw := wp_if hw
  refine G_if_eq (tgt := 240) dX0_readLine_158 rfl (fun c7 => ?_) (fun c7 => ?_)
  · have hw := hw.1 c7
    exact G_vreturn rfl dX0_readLine_240 ⟨rfl, wp_ret hw⟩
  · have hw := hw.2 c7
    refine G_aload_n dX0_readLine_161 rfl ?_
    obtain ⟨c8, hw⟩ := wp_ck hw
    refine G_getI fl_X0_lines w_248 dX0_readLine_162 c8 ?_
    refine G_bipush (v := (40 : Int32)) dX0_readLine_165 (by decide) ?_
    have hw := wp_if hw
    refine G_icmp_ge (tgt := 240) dX0_readLine_167 rfl (fun c9 => ?_) (fun c9 => ?_)
    · have hw := hw.1 c9
      exact G_vreturn rfl dX0_readLine_240 ⟨rfl, wp_ret hw⟩
    · have hw := hw.2 c9
      refine G_aload_n dX0_readLine_170 rfl ?_
      refine G_getI fl_X0_lines w_248 dX0_readLine_171 c8 ?_
      refine G_iconst (v := (5 : Int32)) dX0_readLine_174 (by decide) ?_
      refine G_imul dX0_readLine_175 ?_
      refine G.topi fun v10 ev10 => ?_
      have hw := wp_bd hw v10 ev10
      refine G_istore (lv' := [some (.ref l0), some (.ref l1), none, some (.int l3), some (.int l4), some (.int l5), some (.int l6), some (.int s0), some (.int v10)]) dX0_readLine_176 (Nat.le_of_ble_eq_true rfl) rfl ?_
      refine G_aload_n dX0_readLine_178 rfl ?_
      refine G_getR fl_X0_cells w_247 dX0_readLine_179 c8 ?_
      obtain ⟨a11, ea11, hw⟩ := wp_rq hw
      refine G.sure ea11 ?_
      refine G_iload dX0_readLine_182 rfl ?_
      refine G_iload_n dX0_readLine_184 rfl ?_
      obtain ⟨c12, hw⟩ := wp_ck hw
      obtain ⟨c13, hw⟩ := wp_ck hw
      refine G_iastore dX0_readLine_185 c12 c13 ?_
      refine G.nmh fun h14 eh14 => ?_
      have hw := wp_bd hw h14 eh14
      refine G_aload_n dX0_readLine_186 rfl ?_
      obtain ⟨c15, hw⟩ := wp_ck hw
      refine G_getR fl_X0_cells w_247 dX0_readLine_187 c15 ?_
      obtain ⟨a16, ea16, hw⟩ := wp_rq hw
      refine G.sure ea16 ?_
      refine G_iload dX0_readLine_190 rfl ?_
      refine G_iconst (v := (1 : Int32)) dX0_readLine_192 (by decide) ?_
      refine G_iadd dX0_readLine_193 ?_
      refine G_iload dX0_readLine_194 rfl ?_
      obtain ⟨c17, hw⟩ := wp_ck hw
      obtain ⟨c18, hw⟩ := wp_ck hw
      refine G_iastore dX0_readLine_196 c17 c18 ?_
      refine G.nmh fun h19 eh19 => ?_
      have hw := wp_bd hw h19 eh19
      refine G_aload_n dX0_readLine_197 rfl ?_
      obtain ⟨c20, hw⟩ := wp_ck hw
      refine G_getR fl_X0_cells w_247 dX0_readLine_198 c20 ?_
      obtain ⟨a21, ea21, hw⟩ := wp_rq hw
      refine G.sure ea21 ?_
      refine G_iload dX0_readLine_201 rfl ?_
      refine G_iconst (v := (2 : Int32)) dX0_readLine_203 (by decide) ?_
      refine G_iadd dX0_readLine_204 ?_
      refine G_iload dX0_readLine_205 rfl ?_
      obtain ⟨c22, hw⟩ := wp_ck hw
      obtain ⟨c23, hw⟩ := wp_ck hw
      refine G_iastore dX0_readLine_207 c22 c23 ?_
      refine G.nmh fun h24 eh24 => ?_
      have hw := wp_bd hw h24 eh24
      refine G_aload_n dX0_readLine_208 rfl ?_
      obtain ⟨c25, hw⟩ := wp_ck hw
      refine G_getR fl_X0_cells w_247 dX0_readLine_209 c25 ?_
      obtain ⟨a26, ea26, hw⟩ := wp_rq hw
      refine G.sure ea26 ?_
      refine G_iload dX0_readLine_212 rfl ?_
      refine G_iconst (v := (3 : Int32)) dX0_readLine_214 (by decide) ?_
      refine G_iadd dX0_readLine_215 ?_
      refine G_iload dX0_readLine_216 rfl ?_
      obtain ⟨c27, hw⟩ := wp_ck hw
      obtain ⟨c28, hw⟩ := wp_ck hw
      refine G_iastore dX0_readLine_218 c27 c28 ?_
      refine G.nmh fun h29 eh29 => ?_
      have hw := wp_bd hw h29 eh29
      refine G_aload_n dX0_readLine_219 rfl ?_
      obtain ⟨c30, hw⟩ := wp_ck hw
      refine G_getR fl_X0_cells w_247 dX0_readLine_220 c30 ?_
      obtain ⟨a31, ea31, hw⟩ := wp_rq hw
      refine G.sure ea31 ?_
      refine G_iload dX0_readLine_223 rfl ?_
      refine G_iconst (v := (4 : Int32)) dX0_readLine_225 (by decide) ?_
      refine G_iadd dX0_readLine_226 ?_
      refine G_iload dX0_readLine_227 rfl ?_
      obtain ⟨c32, hw⟩ := wp_ck hw
      obtain ⟨c33, hw⟩ := wp_ck hw
      refine G_iastore dX0_readLine_229 c32 c33 ?_
      refine G.nmh fun h34 eh34 => ?_
      have hw := wp_bd hw h34 eh34
      refine G_aload_n dX0_readLine_230 rfl ?_
      refine G_dup dX0_readLine_231 rfl ?_
      obtain ⟨c35, hw⟩ := wp_ck hw
      refine G_getI fl_X0_lines w_248 dX0_readLine_232 c35 ?_
      refine G_iconst (v := (1 : Int32)) dX0_readLine_235 (by decide) ?_
      refine G_iadd dX0_readLine_236 ?_
      refine G_putI fl_X0_lines w_248 dX0_readLine_237 c35 ?_
      refine G.nmh fun h36 eh36 => ?_
      have hw := wp_bd hw h36 eh36
      exact G_vreturn rfl dX0_readLine_240 ⟨rfl, wp_ret hw⟩
set_option maxHeartbeats 4000000 in
set_option maxRecDepth 100000 in
theorem f_X0_readLine_130_ok {Γ : GX} (hs : SF Γ) {N : Nat} (l0 : Nat) (l1 : Nat) (l3 : Int32) (l4 : Int32) (l5 : Int32) (l6 : Int32) (h : PH) (Q : Unit → PH → Prop) (hw : wp (f_X0_readLine_130 N l0 l1 l3 l4 l5 l6 h) Q) : G Γ yX0_readLine cX0_readLine 9 none (7, 0, 0) 130 [some (.ref l0), some (.ref l1), none, some (.int l3), some (.int l4), some (.int l5), some (.int l6), none, none] [] h (0, 0) (q_u Q) := by
  unfold f_X0_readLine_130 at hw
  refine G_iload_n dX0_readLine_130 rfl ?_
  refine G_iconst (v := (1 : Int32)) dX0_readLine_131 (by decide) ?_
  have hw := wp_if hw
  refine G_icmp_ne (tgt := 145) dX0_readLine_132 rfl (fun c1 => ?_) (fun c1 => ?_)
  · have hw := hw.2 c1
    refine G_iconst (v := (0 : Int32)) dX0_readLine_145 (by decide) ?_
    refine G.less [some (.ref l0), some (.ref l1), none, some (.int l3), some (.int l4), some (.int l5), some (.int l6), none, none] ⟨rfl, ⟨rfl, ⟨rfl, ⟨rfl, ⟨rfl, ⟨rfl, trivial⟩⟩⟩⟩⟩⟩ ?_
    exact f_X0_readLine_146_ok hs _ _ _ _ _ _ _ h Q hw
  · have hw := hw.1 c1
    refine G_aload_n dX0_readLine_135 rfl ?_
    refine G_iconst (v := (1 : Int32)) dX0_readLine_136 (by decide) ?_
    refine G_bipush (v := (99 : Int32)) dX0_readLine_137 (by decide) ?_
    obtain ⟨c4, hw⟩ := wp_ck hw
    refine G_callV (As := [.int (1 : Int32), .int (99 : Int32)]) (s_X5_expectNumber hs l1 (1 : Int32) (99 : Int32) h _ (wp_cl hw)) ca_X5_expectNumber w_744 w_745 (ci := 5) rfl (by decide) w_942 c4 (Nat.le_of_ble_eq_true rfl) (Nat.le_of_ble_eq_true rfl) rfl (Nat.le_of_ble_eq_true rfl) (Nat.le_of_ble_eq_true rfl) (Nat.le_of_ble_eq_true rfl) dX0_readLine_139 rfl (fun v h3 hq => ?_)
    obtain ⟨r2, rfl, hw⟩ := hq
    refine G.cse (cs' := (0, 0)) rfl ?_
    show GZ _ _ _ _ _ _ _ 142 _ (.int r2 :: []) _ _
    refine G_goto (tgt := 146) dX0_readLine_142 rfl ?_
    refine G.less [some (.ref l0), some (.ref l1), none, some (.int l3), some (.int l4), some (.int l5), some (.int l6), none, none] ⟨rfl, ⟨rfl, ⟨rfl, ⟨rfl, ⟨rfl, ⟨rfl, trivial⟩⟩⟩⟩⟩⟩ ?_
    exact f_X0_readLine_146_ok hs _ _ _ _ _ _ _ h3 Q hw
set_option maxHeartbeats 4000000 in
set_option maxRecDepth 100000 in
theorem f_X0_readLine_108_ok {Γ : GX} (hs : SF Γ) {N : Nat} (s0 : Int32) (l0 : Nat) (l1 : Nat) (l2 : Nat) (l3 : Int32) (l4 : Int32) (h : PH) (Q : Unit → PH → Prop) (hw : wp (f_X0_readLine_108 N s0 l0 l1 l2 l3 l4 h) Q) : G Γ yX0_readLine cX0_readLine 9 none (7, 0, 0) 108 [some (.ref l0), some (.ref l1), some (.ref l2), some (.int l3), some (.int l4), none, none, none, none] [.int s0] h (0, 0) (q_u Q) := by
  unfold f_X0_readLine_108 at hw
  refine G_istore (lv' := [some (.ref l0), some (.ref l1), some (.ref l2), some (.int l3), some (.int l4), some (.int s0), none, none, none]) dX0_readLine_108 (Nat.le_of_ble_eq_true rfl) rfl ?_
  refine G_iconst (v := (0 : Int32)) dX0_readLine_110 (by decide) ?_
  refine G_istore (lv' := [some (.ref l0), some (.ref l1), some (.ref l2), some (.int l3), some (.int l4), some (.int s0), some (.int (0 : Int32)), none, none]) dX0_readLine_111 (Nat.le_of_ble_eq_true rfl) rfl ?_
  refine G_iload_n dX0_readLine_113 rfl ?_
  refine G_iconst (v := (2 : Int32)) dX0_readLine_114 (by decide) ?_
  have hw := wp_if hw
  refine G_icmp_eq (tgt := 130) dX0_readLine_115 rfl (fun c1 => ?_) (fun c1 => ?_)
  · have hw := hw.1 c1
    refine G.less [some (.ref l0), some (.ref l1), none, some (.int l3), some (.int l4), some (.int s0), some (.int (0 : Int32)), none, none] ⟨rfl, ⟨rfl, ⟨rfl, ⟨rfl, ⟨rfl, ⟨rfl, trivial⟩⟩⟩⟩⟩⟩ ?_
    exact f_X0_readLine_130_ok hs _ _ _ _ _ _ h Q hw
  · have hw := hw.2 c1
    refine G_aload_n dX0_readLine_118 rfl ?_
    refine G_aload_n dX0_readLine_119 rfl ?_
    refine G_iconst (v := (0 : Int32)) dX0_readLine_120 (by decide) ?_
    obtain ⟨c4, hw⟩ := wp_ck hw
    refine G_callV (As := [.ref l2, .int (0 : Int32)]) (s_X5_toldHere hs l1 l2 (0 : Int32) h _ (wp_cl hw)) ca_X5_toldHere w_786 w_787 (ci := 5) rfl (by decide) w_941 c4 (Nat.le_of_ble_eq_true rfl) (Nat.le_of_ble_eq_true rfl) rfl (Nat.le_of_ble_eq_true rfl) (Nat.le_of_ble_eq_true rfl) (Nat.le_of_ble_eq_true rfl) dX0_readLine_121 rfl (fun v h3 hq => ?_)
    obtain ⟨r2, rfl, hw⟩ := hq
    refine G.cse (cs' := (0, 0)) rfl ?_
    show GZ _ _ _ _ _ _ _ 124 _ (.int r2 :: []) _ _
    refine G_istore (lv' := [some (.ref l0), some (.ref l1), some (.ref l2), some (.int l3), some (.int l4), some (.int s0), some (.int r2), none, none]) dX0_readLine_124 (Nat.le_of_ble_eq_true rfl) rfl ?_
    refine G_aload_n dX0_readLine_126 rfl ?_
    obtain ⟨c7, hw⟩ := wp_ck hw
    refine G_callV (As := []) (s_X5_step hs l1 h3 _ (wp_cl hw)) ca_X5_step w_586 w_587 (ci := 5) rfl (by decide) w_937 c7 (Nat.le_of_ble_eq_true rfl) (Nat.le_of_ble_eq_true rfl) rfl (Nat.le_of_ble_eq_true rfl) (Nat.le_of_ble_eq_true rfl) (Nat.le_of_ble_eq_true rfl) dX0_readLine_127 rfl (fun v h6 hq => ?_)
    obtain ⟨rfl, hw⟩ := hq
    refine G.cse (cs' := (0, 0)) rfl ?_
    show GZ _ _ _ _ _ _ _ 130 _ [] _ _
    refine G.less [some (.ref l0), some (.ref l1), none, some (.int l3), some (.int l4), some (.int s0), some (.int r2), none, none] ⟨rfl, ⟨rfl, ⟨rfl, ⟨rfl, ⟨rfl, ⟨rfl, trivial⟩⟩⟩⟩⟩⟩ ?_
    exact f_X0_readLine_130_ok hs _ _ _ _ _ _ h6 Q hw
set_option maxHeartbeats 4000000 in
set_option maxRecDepth 100000 in
theorem f_X0_readLine_90_ok {Γ : GX} (hs : SF Γ) {N : Nat} (s0 : Int32) (l0 : Nat) (l1 : Nat) (l2 : Nat) (l3 : Int32) (h : PH) (Q : Unit → PH → Prop) (hw : wp (f_X0_readLine_90 N s0 l0 l1 l2 l3 h) Q) : G Γ yX0_readLine cX0_readLine 9 none (7, 0, 0) 90 [some (.ref l0), some (.ref l1), some (.ref l2), some (.int l3), none, none, none, none, none] [.int s0] h (0, 0) (q_u Q) := by
  unfold f_X0_readLine_90 at hw
  refine G_istore (lv' := [some (.ref l0), some (.ref l1), some (.ref l2), some (.int l3), some (.int s0), none, none, none, none]) dX0_readLine_90 (Nat.le_of_ble_eq_true rfl) rfl ?_
  refine G_iload_n dX0_readLine_92 rfl ?_
  refine G_iconst (v := (1 : Int32)) dX0_readLine_93 (by decide) ?_
  have hw := wp_if hw
  refine G_icmp_ne (tgt := 107) dX0_readLine_94 rfl (fun c1 => ?_) (fun c1 => ?_)
  · have hw := hw.2 c1
    refine G_iconst (v := (0 : Int32)) dX0_readLine_107 (by decide) ?_
    refine G.less [some (.ref l0), some (.ref l1), some (.ref l2), some (.int l3), some (.int s0), none, none, none, none] ⟨rfl, ⟨rfl, ⟨rfl, ⟨rfl, ⟨rfl, trivial⟩⟩⟩⟩⟩ ?_
    exact f_X0_readLine_108_ok hs _ _ _ _ _ _ h Q hw
  · have hw := hw.1 c1
    refine G_aload_n dX0_readLine_97 rfl ?_
    refine G_aload_n dX0_readLine_98 rfl ?_
    refine G_iload dX0_readLine_99 rfl ?_
    refine G_callS (As := [.ref l1, .ref l2, .int s0]) (s_X0_readHouse hs l1 l2 s0 h _ (wp_cl hw)) ca_X0_readHouse w_939 w_938 (Nat.le_of_ble_eq_true rfl) (Nat.le_of_ble_eq_true rfl) rfl (Nat.le_of_ble_eq_true rfl) (Nat.le_of_ble_eq_true rfl) (Nat.le_of_ble_eq_true rfl) dX0_readLine_101 rfl (fun v h3 hq => ?_)
    obtain ⟨r2, rfl, hw⟩ := hq
    refine G.cse (cs' := (0, 0)) rfl ?_
    show GZ _ _ _ _ _ _ _ 104 _ (.int r2 :: []) _ _
    refine G_goto (tgt := 108) dX0_readLine_104 rfl ?_
    refine G.less [some (.ref l0), some (.ref l1), some (.ref l2), some (.int l3), some (.int s0), none, none, none, none] ⟨rfl, ⟨rfl, ⟨rfl, ⟨rfl, ⟨rfl, trivial⟩⟩⟩⟩⟩ ?_
    exact f_X0_readLine_108_ok hs _ _ _ _ _ _ h3 Q hw
set_option maxHeartbeats 4000000 in
set_option maxRecDepth 100000 in
theorem f_X0_readLine_71_ok {Γ : GX} (hs : SF Γ) {N : Nat} (l0 : Nat) (l1 : Nat) (l2 : Nat) (l3 : Int32) (h : PH) (Q : Unit → PH → Prop) (hw : wp (f_X0_readLine_71 N l0 l1 l2 l3 h) Q) : G Γ yX0_readLine cX0_readLine 9 none (7, 0, 0) 71 [some (.ref l0), some (.ref l1), some (.ref l2), some (.int l3), none, none, none, none, none] [] h (0, 0) (q_u Q) := by
  unfold f_X0_readLine_71 at hw
  refine G_aload_n dX0_readLine_71 rfl ?_
  obtain ⟨c3, hw⟩ := wp_ck hw
  refine G_callV (As := []) (s_X5_step hs l1 h _ (wp_cl hw)) ca_X5_step w_586 w_587 (ci := 5) rfl (by decide) w_937 c3 (Nat.le_of_ble_eq_true rfl) (Nat.le_of_ble_eq_true rfl) rfl (Nat.le_of_ble_eq_true rfl) (Nat.le_of_ble_eq_true rfl) (Nat.le_of_ble_eq_true rfl) dX0_readLine_72 rfl (fun v h2 hq => ?_)
  obtain ⟨rfl, hw⟩ := hq
  refine G.cse (cs' := (0, 0)) rfl ?_
  show GZ _ _ _ _ _ _ _ 75 _ [] _ _
  refine G_iload_n dX0_readLine_75 rfl ?_
  refine G_iconst (v := (2 : Int32)) dX0_readLine_76 (by decide) ?_
  have hw := wp_if hw
  refine G_icmp_ne (tgt := 84) dX0_readLine_77 rfl (fun c4 => ?_) (fun c4 => ?_)
  · have hw := hw.2 c4
    refine G_aload_n dX0_readLine_84 rfl ?_
    refine G_aload_n dX0_readLine_85 rfl ?_
    refine G_iconst (v := (-1 : Int32)) dX0_readLine_86 (by decide) ?_
    refine G_callS (As := [.ref l1, .ref l2, .int (-1 : Int32)]) (s_X0_readHouse hs l1 l2 (-1 : Int32) h2 _ (wp_cl hw)) ca_X0_readHouse w_939 w_938 (Nat.le_of_ble_eq_true rfl) (Nat.le_of_ble_eq_true rfl) rfl (Nat.le_of_ble_eq_true rfl) (Nat.le_of_ble_eq_true rfl) (Nat.le_of_ble_eq_true rfl) dX0_readLine_87 rfl (fun v h6 hq => ?_)
    obtain ⟨r5, rfl, hw⟩ := hq
    refine G.cse (cs' := (0, 0)) rfl ?_
    show GZ _ _ _ _ _ _ _ 90 _ (.int r5 :: []) _ _
    refine G.less [some (.ref l0), some (.ref l1), some (.ref l2), some (.int l3), none, none, none, none, none] ⟨rfl, ⟨rfl, ⟨rfl, ⟨rfl, trivial⟩⟩⟩⟩ ?_
    exact f_X0_readLine_90_ok hs _ _ _ _ _ h6 Q hw
  · have hw := hw.1 c4
    refine G_iconst (v := (0 : Int32)) dX0_readLine_80 (by decide) ?_
    refine G_goto (tgt := 90) dX0_readLine_81 rfl ?_
    refine G.less [some (.ref l0), some (.ref l1), some (.ref l2), some (.int l3), none, none, none, none, none] ⟨rfl, ⟨rfl, ⟨rfl, ⟨rfl, trivial⟩⟩⟩⟩ ?_
    exact f_X0_readLine_90_ok hs _ _ _ _ _ h2 Q hw
set_option maxHeartbeats 4000000 in
set_option maxRecDepth 100000 in
theorem f_X0_readLine_43_ok {Γ : GX} (hs : SF Γ) {N : Nat} (s0 : Int32) (l0 : Nat) (l1 : Nat) (l2 : Nat) (h : PH) (Q : Unit → PH → Prop) (hw : wp (f_X0_readLine_43 N s0 l0 l1 l2 h) Q) : G Γ yX0_readLine cX0_readLine 9 none (7, 0, 0) 43 [some (.ref l0), some (.ref l1), some (.ref l2), none, none, none, none, none, none] [.int s0] h (0, 0) (q_u Q) := by
  unfold f_X0_readLine_43 at hw
  refine G_istore_n (lv' := [some (.ref l0), some (.ref l1), some (.ref l2), some (.int s0), none, none, none, none, none]) dX0_readLine_43 (Nat.le_of_ble_eq_true rfl) rfl ?_
  refine G_iload_n dX0_readLine_44 rfl ?_
  refine G_iconst (v := (-1 : Int32)) dX0_readLine_45 (by decide) ?_
  have hw := wp_if hw
  refine G_icmp_ne (tgt := 57) dX0_readLine_46 rfl (fun c1 => ?_) (fun c1 => ?_)
  · have hw := hw.2 c1
    refine G_aload_n dX0_readLine_57 rfl ?_
    obtain ⟨c2, hw⟩ := wp_ck hw
    refine G_getI fl_X0_lines w_248 dX0_readLine_58 c2 ?_
    refine G_bipush (v := (40 : Int32)) dX0_readLine_61 (by decide) ?_
    have hw := wp_if hw
    refine G_icmp_lt (tgt := 71) dX0_readLine_63 rfl (fun c3 => ?_) (fun c3 => ?_)
    · have hw := hw.1 c3
      refine G.less [some (.ref l0), some (.ref l1), some (.ref l2), some (.int s0), none, none, none, none, none] ⟨rfl, ⟨rfl, ⟨rfl, ⟨rfl, trivial⟩⟩⟩⟩ ?_
      exact f_X0_readLine_71_ok hs _ _ _ _ h Q hw
    · have hw := hw.2 c3
      refine G_aload_n dX0_readLine_66 rfl ?_
      refine G_iconst (v := (5 : Int32)) dX0_readLine_67 (by decide) ?_
      obtain ⟨c6, hw⟩ := wp_ck hw
      refine G_callV (As := [.int (5 : Int32)]) (s_X5_fail hs l1 (5 : Int32) h _ (wp_cl hw)) ca_X5_fail w_715 w_716 (ci := 5) rfl (by decide) w_936 c6 (Nat.le_of_ble_eq_true rfl) (Nat.le_of_ble_eq_true rfl) rfl (Nat.le_of_ble_eq_true rfl) (Nat.le_of_ble_eq_true rfl) (Nat.le_of_ble_eq_true rfl) dX0_readLine_68 rfl (fun v h5 hq => ?_)
      obtain ⟨rfl, hw⟩ := hq
      refine G.cse (cs' := (0, 0)) rfl ?_
      show GZ _ _ _ _ _ _ _ 71 _ [] _ _
      refine G.less [some (.ref l0), some (.ref l1), some (.ref l2), some (.int s0), none, none, none, none, none] ⟨rfl, ⟨rfl, ⟨rfl, ⟨rfl, trivial⟩⟩⟩⟩ ?_
      exact f_X0_readLine_71_ok hs _ _ _ _ h5 Q hw
  · have hw := hw.1 c1
    refine G_aload_n dX0_readLine_49 rfl ?_
    refine G_iconst (v := (1 : Int32)) dX0_readLine_50 (by decide) ?_
    obtain ⟨c9, hw⟩ := wp_ck hw
    refine G_callV (As := [.int (1 : Int32)]) (s_X5_fail hs l1 (1 : Int32) h _ (wp_cl hw)) ca_X5_fail w_715 w_716 (ci := 5) rfl (by decide) w_936 c9 (Nat.le_of_ble_eq_true rfl) (Nat.le_of_ble_eq_true rfl) rfl (Nat.le_of_ble_eq_true rfl) (Nat.le_of_ble_eq_true rfl) (Nat.le_of_ble_eq_true rfl) dX0_readLine_51 rfl (fun v h8 hq => ?_)
    obtain ⟨rfl, hw⟩ := hq
    refine G.cse (cs' := (0, 0)) rfl ?_
    show GZ _ _ _ _ _ _ _ 54 _ [] _ _
    refine G_goto (tgt := 71) dX0_readLine_54 rfl ?_
    refine G.less [some (.ref l0), some (.ref l1), some (.ref l2), some (.int s0), none, none, none, none, none] ⟨rfl, ⟨rfl, ⟨rfl, ⟨rfl, trivial⟩⟩⟩⟩ ?_
    exact f_X0_readLine_71_ok hs _ _ _ _ h8 Q hw
set_option maxHeartbeats 4000000 in
set_option maxRecDepth 100000 in
theorem s_X0_readLine {Γ : GX} (hs : SF Γ) {N : Nat} (l0 : Nat) (l1 : Nat) (l2 : Nat) (h : PH) (Q : Unit → PH → Prop) (hw : wp (f_X0_readLine N l0 l1 l2 h) Q) : Spec Γ yX0_readLine cX0_readLine 9 none (7, 0, 0) [.ref l0, .ref l1, .ref l2] h (q_u Q) := by
  refine Spec.of (by decide) (Nat.le_of_ble_eq_true rfl) [some (.ref l0), some (.ref l1), some (.ref l2), none, none, none, none, none, none] rfl ?_
  unfold f_X0_readLine at hw
  refine G_aload_n dX0_readLine_0 rfl ?_
  refine G_getsW hs 16 rfl (by decide) w_929 dX0_readLine_1 ?_
  obtain ⟨c3, hw⟩ := wp_ck hw
  refine G_callV (As := [.ref (hW h 16)]) (s_X5_isAt hs l1 (hW h 16) h _ (wp_cl hw)) ca_X5_isAt w_703 w_704 (ci := 5) rfl (by decide) w_931 c3 (Nat.le_of_ble_eq_true rfl) (Nat.le_of_ble_eq_true rfl) rfl (Nat.le_of_ble_eq_true rfl) (Nat.le_of_ble_eq_true rfl) (Nat.le_of_ble_eq_true rfl) dX0_readLine_4 rfl (fun v h2 hq => ?_)
  obtain ⟨r1, rfl, hw⟩ := hq
  refine G.cse (cs' := (0, 0)) rfl ?_
  show GZ _ _ _ _ _ _ _ 7 _ (.int r1 :: []) _ _
  have hw := wp_if hw
  refine G_if_eq (tgt := 14) dX0_readLine_7 rfl (fun c4 => ?_) (fun c4 => ?_)
  · have hw := hw.1 c4
    refine G_aload_n dX0_readLine_14 rfl ?_
    refine G_getsW hs 17 rfl (by decide) w_932 dX0_readLine_15 ?_
    obtain ⟨c7, hw⟩ := wp_ck hw
    refine G_callV (As := [.ref (hW h2 17)]) (s_X5_isAt hs l1 (hW h2 17) h2 _ (wp_cl hw)) ca_X5_isAt w_703 w_704 (ci := 5) rfl (by decide) w_931 c7 (Nat.le_of_ble_eq_true rfl) (Nat.le_of_ble_eq_true rfl) rfl (Nat.le_of_ble_eq_true rfl) (Nat.le_of_ble_eq_true rfl) (Nat.le_of_ble_eq_true rfl) dX0_readLine_18 rfl (fun v h6 hq => ?_)
    obtain ⟨r5, rfl, hw⟩ := hq
    refine G.cse (cs' := (0, 0)) rfl ?_
    show GZ _ _ _ _ _ _ _ 21 _ (.int r5 :: []) _ _
    have hw := wp_if hw
    refine G_if_eq (tgt := 28) dX0_readLine_21 rfl (fun c8 => ?_) (fun c8 => ?_)
    · have hw := hw.1 c8
      refine G_aload_n dX0_readLine_28 rfl ?_
      refine G_getsW hs 18 rfl (by decide) w_934 dX0_readLine_29 ?_
      obtain ⟨c11, hw⟩ := wp_ck hw
      refine G_callV (As := [.ref (hW h6 18)]) (s_X5_isAt hs l1 (hW h6 18) h6 _ (wp_cl hw)) ca_X5_isAt w_703 w_704 (ci := 5) rfl (by decide) w_931 c11 (Nat.le_of_ble_eq_true rfl) (Nat.le_of_ble_eq_true rfl) rfl (Nat.le_of_ble_eq_true rfl) (Nat.le_of_ble_eq_true rfl) (Nat.le_of_ble_eq_true rfl) dX0_readLine_32 rfl (fun v h10 hq => ?_)
      obtain ⟨r9, rfl, hw⟩ := hq
      refine G.cse (cs' := (0, 0)) rfl ?_
      show GZ _ _ _ _ _ _ _ 35 _ (.int r9 :: []) _ _
      have hw := wp_if hw
      refine G_if_eq (tgt := 42) dX0_readLine_35 rfl (fun c12 => ?_) (fun c12 => ?_)
      · have hw := hw.1 c12
        refine G_iconst (v := (-1 : Int32)) dX0_readLine_42 (by decide) ?_
        refine G.less [some (.ref l0), some (.ref l1), some (.ref l2), none, none, none, none, none, none] ⟨rfl, ⟨rfl, ⟨rfl, trivial⟩⟩⟩ ?_
        exact f_X0_readLine_43_ok hs _ _ _ _ h10 Q hw
      · have hw := hw.2 c12
        refine G_iconst (v := (2 : Int32)) dX0_readLine_38 (by decide) ?_
        refine G_goto (tgt := 43) dX0_readLine_39 rfl ?_
        refine G.less [some (.ref l0), some (.ref l1), some (.ref l2), none, none, none, none, none, none] ⟨rfl, ⟨rfl, ⟨rfl, trivial⟩⟩⟩ ?_
        exact f_X0_readLine_43_ok hs _ _ _ _ h10 Q hw
    · have hw := hw.2 c8
      refine G_iconst (v := (1 : Int32)) dX0_readLine_24 (by decide) ?_
      refine G_goto (tgt := 43) dX0_readLine_25 rfl ?_
      refine G.less [some (.ref l0), some (.ref l1), some (.ref l2), none, none, none, none, none, none] ⟨rfl, ⟨rfl, ⟨rfl, trivial⟩⟩⟩ ?_
      exact f_X0_readLine_43_ok hs _ _ _ _ h6 Q hw
  · have hw := hw.2 c4
    refine G_iconst (v := (0 : Int32)) dX0_readLine_10 (by decide) ?_
    refine G_goto (tgt := 43) dX0_readLine_11 rfl ?_
    refine G.less [some (.ref l0), some (.ref l1), some (.ref l2), none, none, none, none, none, none] ⟨rfl, ⟨rfl, ⟨rfl, trivial⟩⟩⟩ ?_
    exact f_X0_readLine_43_ok hs _ _ _ _ h2 Q hw
set_option maxHeartbeats 4000000 in
set_option maxRecDepth 100000 in
theorem f_X0_readFrom_11_bok {Γ : GX} (hs : SF Γ) {N : Nat} {K_11 : Nat → Nat → Nat → Int32 → PH → Option (Unit × PH)} (hK_11 : ∀ (l0 : Nat) (l1 : Nat) (l2 : Nat) (l3 : Int32) (h : PH) (Q : Unit → PH → Prop), wp (K_11 l0 l1 l2 l3 h) Q → G Γ yX0_readFrom cX0_readFrom 4 none (8, 0, 0) 11 [some (.ref l0), some (.ref l1), some (.ref l2), some (.int l3)] [] h (0, 0) (q_u Q)) (l0 : Nat) (l1 : Nat) (l2 : Nat) (l3 : Int32) (h : PH) (Q : Unit → PH → Prop) (hw : wp (f_X0_readFrom_11_b N K_11 l0 l1 l2 l3 h) Q) : G Γ yX0_readFrom cX0_readFrom 4 none (8, 0, 0) 11 [some (.ref l0), some (.ref l1), some (.ref l2), some (.int l3)] [] h (0, 0) (q_u Q) := by
  unfold f_X0_readFrom_11_b at hw
  refine G_iload_n dX0_readFrom_11 rfl ?_
  refine G_bipush (v := (40 : Int32)) dX0_readFrom_12 (by decide) ?_
  have hw := wp_if hw
  refine G_icmp_gt (tgt := 36) dX0_readFrom_14 rfl (fun c1 => ?_) (fun c1 => ?_)
  · have hw := hw.1 c1
    exact G_vreturn rfl dX0_readFrom_36 ⟨rfl, wp_ret hw⟩
  · have hw := hw.2 c1
    refine G_aload_n dX0_readFrom_17 rfl ?_
    obtain ⟨c4, hw⟩ := wp_ck hw
    refine G_callV (As := []) (s_X5_isOver hs l1 h _ (wp_cl hw)) ca_X5_isOver w_697 w_698 (ci := 5) rfl (by decide) w_924 c4 (Nat.le_of_ble_eq_true rfl) (Nat.le_of_ble_eq_true rfl) rfl (Nat.le_of_ble_eq_true rfl) (Nat.le_of_ble_eq_true rfl) (Nat.le_of_ble_eq_true rfl) dX0_readFrom_18 rfl (fun v h3 hq => ?_)
    obtain ⟨r2, rfl, hw⟩ := hq
    refine G.cse (cs' := (0, 0)) rfl ?_
    show GZ _ _ _ _ _ _ _ 21 _ (.int r2 :: []) _ _
    have hw := wp_if hw
    refine G_if_ne (tgt := 36) dX0_readFrom_21 rfl (fun c5 => ?_) (fun c5 => ?_)
    · have hw := hw.2 c5
      exact G_vreturn rfl dX0_readFrom_36 ⟨rfl, wp_ret hw⟩
    · have hw := hw.1 c5
      refine G_aload_n dX0_readFrom_24 rfl ?_
      refine G_aload_n dX0_readFrom_25 rfl ?_
      refine G_aload_n dX0_readFrom_26 rfl ?_
      obtain ⟨c8, hw⟩ := wp_ck hw
      refine G_callV (As := [.ref l1, .ref l2]) (s_X0_readLine hs l0 l1 l2 h3 _ (wp_cl hw)) ca_X0_readLine w_927 w_21 (ci := 0) rfl (by decide) w_925 c8 (Nat.le_of_ble_eq_true rfl) (Nat.le_of_ble_eq_true rfl) rfl (Nat.le_of_ble_eq_true rfl) (Nat.le_of_ble_eq_true rfl) (Nat.le_of_ble_eq_true rfl) dX0_readFrom_27 rfl (fun v h7 hq => ?_)
      obtain ⟨rfl, hw⟩ := hq
      refine G.cse (cs' := (0, 0)) rfl ?_
      show GZ _ _ _ _ _ _ _ 30 _ [] _ _
      obtain ⟨v9, ev9⟩ : ∃ z : Int32, z = l3 + (1 : Int32) := ⟨_, rfl⟩
      have hw := wp_bd hw v9 ev9
      refine G_iinc (v := v9) (lv' := [some (.ref l0), some (.ref l1), some (.ref l2), some (.int v9)]) dX0_readFrom_30 rfl (by rw [ev9]; rfl) (Nat.le_of_ble_eq_true rfl) rfl ?_
      refine G_goto (tgt := 11) dX0_readFrom_33 rfl ?_
      refine G.less [some (.ref l0), some (.ref l1), some (.ref l2), some (.int v9)] ⟨rfl, ⟨rfl, ⟨rfl, ⟨rfl, trivial⟩⟩⟩⟩ ?_
      exact hK_11 _ _ _ _ h7 Q hw
theorem f_X0_readFrom_11_ok {Γ : GX} (hs : SF Γ) {N : Nat} : ∀ (n : Nat) (l0 : Nat) (l1 : Nat) (l2 : Nat) (l3 : Int32) (h : PH) (Q : Unit → PH → Prop), wp (f_X0_readFrom_11 N n l0 l1 l2 l3 h) Q → G Γ yX0_readFrom cX0_readFrom 4 none (8, 0, 0) 11 [some (.ref l0), some (.ref l1), some (.ref l2), some (.int l3)] [] h (0, 0) (q_u Q)
  | 0, _, _, _, _, _, Q, hw => (wp_no hw).elim
  | n + 1, l0, l1, l2, l3, h, Q, hw => f_X0_readFrom_11_bok (N := N) hs (f_X0_readFrom_11_ok (N := N) hs n) l0 l1 l2 l3 h Q hw
set_option maxHeartbeats 4000000 in
set_option maxRecDepth 100000 in
theorem s_X0_readFrom {Γ : GX} (hs : SF Γ) {N : Nat} (l0 : Nat) (l1 : Nat) (l2 : Nat) (h : PH) (Q : Unit → PH → Prop) (hw : wp (f_X0_readFrom N l0 l1 l2 h) Q) : Spec Γ yX0_readFrom cX0_readFrom 4 none (8, 0, 0) [.ref l0, .ref l1, .ref l2] h (q_u Q) := by
  refine Spec.of (by decide) (Nat.le_of_ble_eq_true rfl) [some (.ref l0), some (.ref l1), some (.ref l2), none] rfl ?_
  unfold f_X0_readFrom at hw
  refine G_aload_n dX0_readFrom_0 rfl ?_
  refine G_iconst (v := (0 : Int32)) dX0_readFrom_1 (by decide) ?_
  obtain ⟨c1, hw⟩ := wp_ck hw
  refine G_putI fl_X0_lines w_248 dX0_readFrom_2 c1 ?_
  refine G.nmh fun h2 eh2 => ?_
  have hw := wp_bd hw h2 eh2
  refine G_aload_n dX0_readFrom_5 rfl ?_
  obtain ⟨c5, hw⟩ := wp_ck hw
  refine G_callV (As := []) (s_X5_open hs l1 h2 _ (wp_cl hw)) ca_X5_open w_582 w_583 (ci := 5) rfl (by decide) w_923 c5 (Nat.le_of_ble_eq_true rfl) (Nat.le_of_ble_eq_true rfl) rfl (Nat.le_of_ble_eq_true rfl) (Nat.le_of_ble_eq_true rfl) (Nat.le_of_ble_eq_true rfl) dX0_readFrom_6 rfl (fun v h4 hq => ?_)
  obtain ⟨rfl, hw⟩ := hq
  refine G.cse (cs' := (0, 0)) rfl ?_
  show GZ _ _ _ _ _ _ _ 9 _ [] _ _
  refine G_iconst (v := (0 : Int32)) dX0_readFrom_9 (by decide) ?_
  refine G_istore_n (lv' := [some (.ref l0), some (.ref l1), some (.ref l2), some (.int (0 : Int32))]) dX0_readFrom_10 (Nat.le_of_ble_eq_true rfl) rfl ?_
  refine G.less [some (.ref l0), some (.ref l1), some (.ref l2), some (.int (0 : Int32))] ⟨rfl, ⟨rfl, ⟨rfl, ⟨rfl, trivial⟩⟩⟩⟩ ?_
  exact f_X0_readFrom_11_ok hs N _ _ _ _ h4 Q hw
set_option maxHeartbeats 4000000 in
set_option maxRecDepth 100000 in
theorem s_X0_copy {Γ : GX} (hs : SF Γ) {N : Nat} (l0 : Nat) (l1 : Nat) (h : PH) (Q : Unit → PH → Prop) (hw : wp (f_X0_copy N l0 l1 h) Q) : Spec Γ yX0_copy cX0_copy 2 none (2, 0, 0) [.ref l0, .ref l1] h (q_u Q) := by
  refine Spec.of (by decide) (Nat.le_of_ble_eq_true rfl) [some (.ref l0), some (.ref l1)] rfl ?_
  unfold f_X0_copy at hw
  refine G_aload_n dX0_copy_0 rfl ?_
  refine G_aload_n dX0_copy_1 rfl ?_
  obtain ⟨c1, hw⟩ := wp_ck hw
  refine G_getI fl_X0_lines w_248 dX0_copy_2 c1 ?_
  obtain ⟨c2, hw⟩ := wp_ck hw
  refine G_putI fl_X0_lines w_248 dX0_copy_5 c2 ?_
  refine G.nmh fun h3 eh3 => ?_
  have hw := wp_bd hw h3 eh3
  refine G_aload_n dX0_copy_8 rfl ?_
  obtain ⟨c4, hw⟩ := wp_ck hw
  refine G_getR fl_X0_cells w_247 dX0_copy_9 c4 ?_
  obtain ⟨a5, ea5, hw⟩ := wp_rq hw
  refine G.sure ea5 ?_
  refine G_iconst (v := (0 : Int32)) dX0_copy_12 (by decide) ?_
  refine G_aload_n dX0_copy_13 rfl ?_
  obtain ⟨c6, hw⟩ := wp_ck hw
  refine G_getR fl_X0_cells w_247 dX0_copy_14 c6 ?_
  obtain ⟨a7, ea7, hw⟩ := wp_rq hw
  refine G.sure ea7 ?_
  refine G_iconst (v := (0 : Int32)) dX0_copy_17 (by decide) ?_
  refine G_aload_n dX0_copy_18 rfl ?_
  refine G_getI fl_X0_lines w_248 dX0_copy_19 c6 ?_
  refine G_iconst (v := (5 : Int32)) dX0_copy_22 (by decide) ?_
  refine G_imul dX0_copy_23 ?_
  obtain ⟨c8, hw⟩ := wp_ck hw
  obtain ⟨c9, hw⟩ := wp_ck hw
  obtain ⟨c10, hw⟩ := wp_ck hw
  obtain ⟨c11, hw⟩ := wp_ck hw
  obtain ⟨c12, hw⟩ := wp_ck hw
  refine G_acopy w_949 w_909 w_908 w_148 c8 c9 (by decide) (by decide) c10 c11 c12 dX0_copy_24 (Nat.le_of_ble_eq_true rfl) (Nat.le_of_ble_eq_true rfl) ?_
  refine G.nmh fun h13 eh13 => ?_
  have hw := wp_bd hw h13 eh13
  exact G_vreturn rfl dX0_copy_27 ⟨rfl, wp_ret hw⟩
set_option maxHeartbeats 4000000 in
set_option maxRecDepth 100000 in
theorem s_X10_day {Γ : GX} (hs : SF Γ) {N : Nat} (l0 : Nat) (h : PH) (Q : Int32 → PH → Prop) (hw : wp (f_X10_day N l0 h) Q) : Spec Γ yX10_day cX10_day 2 (some .int) (9, 0, 0) [.ref l0] h (q_i Q) := by
  refine Spec.of (by decide) (Nat.le_of_ble_eq_true rfl) [some (.ref l0), none] rfl ?_
  unfold f_X10_day at hw
  refine G_aload_n dX10_day_0 rfl ?_
  obtain ⟨c1, hw⟩ := wp_ck hw
  refine G_getR fl_X10_spareDay w_502 dX10_day_1 c1 ?_
  obtain ⟨a2, ea2, hw⟩ := wp_rq hw
  refine G.sure ea2 ?_
  refine G_aload_n dX10_day_4 rfl ?_
  refine G_getR fl_X10_tape w_497 dX10_day_5 c1 ?_
  obtain ⟨a3, ea3, hw⟩ := wp_rq hw
  refine G.sure ea3 ?_
  refine G_aload_n dX10_day_8 rfl ?_
  refine G_getR fl_X10_valley w_507 dX10_day_9 c1 ?_
  obtain ⟨a4, ea4, hw⟩ := wp_rq hw
  refine G.sure ea4 ?_
  obtain ⟨c7, hw⟩ := wp_ck hw
  refine G_callV (As := [.ref a3, .ref a4]) (s_X0_readFrom hs a2 a3 a4 h _ (wp_cl hw)) ca_X0_readFrom w_920 w_921 (ci := 0) rfl (by decide) w_919 c7 (Nat.le_of_ble_eq_true rfl) (Nat.le_of_ble_eq_true rfl) rfl (Nat.le_of_ble_eq_true rfl) (Nat.le_of_ble_eq_true rfl) (Nat.le_of_ble_eq_true rfl) dX10_day_12 rfl (fun v h6 hq => ?_)
  obtain ⟨rfl, hw⟩ := hq
  refine G.cse (cs' := (0, 0)) rfl ?_
  show GZ _ _ _ _ _ _ _ 15 _ [] _ _
  refine G_aload_n dX10_day_15 rfl ?_
  obtain ⟨c8, hw⟩ := wp_ck hw
  refine G_getR fl_X10_tape w_497 dX10_day_16 c8 ?_
  obtain ⟨a9, ea9, hw⟩ := wp_rq hw
  refine G.sure ea9 ?_
  obtain ⟨c12, hw⟩ := wp_ck hw
  refine G_callV (As := []) (s_X5_close hs a9 h6 _ (wp_cl hw)) ca_X5_close w_896 w_897 (ci := 5) rfl (by decide) w_895 c12 (Nat.le_of_ble_eq_true rfl) (Nat.le_of_ble_eq_true rfl) rfl (Nat.le_of_ble_eq_true rfl) (Nat.le_of_ble_eq_true rfl) (Nat.le_of_ble_eq_true rfl) dX10_day_19 rfl (fun v h11 hq => ?_)
  obtain ⟨r10, rfl, hw⟩ := hq
  refine G.cse (cs' := (0, 0)) rfl ?_
  show GZ _ _ _ _ _ _ _ 22 _ (.int r10 :: []) _ _
  refine G_istore_n (lv' := [some (.ref l0), some (.int r10)]) dX10_day_22 (Nat.le_of_ble_eq_true rfl) rfl ?_
  refine G_iload_n dX10_day_23 rfl ?_
  have hw := wp_if hw
  refine G_if_ne (tgt := 41) dX10_day_24 rfl (fun c13 => ?_) (fun c13 => ?_)
  · have hw := hw.2 c13
    refine G_iload_n dX10_day_41 rfl ?_
    exact G_ireturn rfl dX10_day_42 ⟨_, rfl, wp_ret hw⟩
  · have hw := hw.1 c13
    refine G_aload_n dX10_day_27 rfl ?_
    obtain ⟨c14, hw⟩ := wp_ck hw
    refine G_getR fl_X10_now w_498 dX10_day_28 c14 ?_
    obtain ⟨a15, ea15, hw⟩ := wp_rq hw
    refine G.sure ea15 ?_
    obtain ⟨c16, hw⟩ := wp_ck hw
    refine G_getNR fl_X2_day w_259 dX10_day_31 c16 ?_
    obtain ⟨a17, ea17, hw⟩ := wp_rq hw
    refine G.sure ea17 ?_
    refine G_aload_n dX10_day_34 rfl ?_
    refine G_getR fl_X10_spareDay w_502 dX10_day_35 c14 ?_
    obtain ⟨a18, ea18, hw⟩ := wp_rq hw
    refine G.sure ea18 ?_
    obtain ⟨c21, hw⟩ := wp_ck hw
    refine G_callV (As := [.ref a18]) (s_X0_copy hs a17 a18 h11 _ (wp_cl hw)) ca_X0_copy w_946 w_947 (ci := 0) rfl (by decide) w_945 c21 (Nat.le_of_ble_eq_true rfl) (Nat.le_of_ble_eq_true rfl) rfl (Nat.le_of_ble_eq_true rfl) (Nat.le_of_ble_eq_true rfl) (Nat.le_of_ble_eq_true rfl) dX10_day_38 rfl (fun v h20 hq => ?_)
    obtain ⟨rfl, hw⟩ := hq
    refine G.cse (cs' := (0, 0)) rfl ?_
    show GZ _ _ _ _ _ _ _ 41 _ [] _ _
    refine G_iload_n dX10_day_41 rfl ?_
    exact G_ireturn rfl dX10_day_42 ⟨_, rfl, wp_ret hw⟩
set_option maxHeartbeats 4000000 in
set_option maxRecDepth 100000 in
theorem s_X6_has {Γ : GX} (hs : SF Γ) {N : Nat} (l0 : Nat) (l1 : Int32) (l2 : Int32) (h : PH) (Q : Int32 → PH → Prop) (hw : wp (f_X6_has N l0 l1 l2 h) Q) : Spec Γ yX6_has cX6_has 3 (some .boolean) (1, 0, 0) [.ref l0, .int l1, .int l2] h (q_i Q) := by
  refine Spec.of (by decide) (Nat.le_of_ble_eq_true rfl) [some (.ref l0), some (.int l1), some (.int l2)] rfl ?_
  unfold f_X6_has at hw
  refine G_iload_n dX6_has_0 rfl ?_
  have hw := wp_if hw
  refine G_if_lt (tgt := 18) dX6_has_1 rfl (fun c1 => ?_) (fun c1 => ?_)
  · have hw := hw.1 c1
    refine G_iconst (v := (0 : Int32)) dX6_has_18 (by decide) ?_
    exact G_zreturn rfl dX6_has_19 rfl ⟨_, rfl, wp_ret hw⟩
  · have hw := hw.2 c1
    refine G_iload_n dX6_has_4 rfl ?_
    refine G_aload_n dX6_has_5 rfl ?_
    obtain ⟨c2, hw⟩ := wp_ck hw
    refine G_getR fl_X6_many w_426 dX6_has_6 c2 ?_
    obtain ⟨a3, ea3, hw⟩ := wp_rq hw
    refine G.sure ea3 ?_
    refine G_iload_n dX6_has_9 rfl ?_
    obtain ⟨c4, hw⟩ := wp_ck hw
    obtain ⟨c5, hw⟩ := wp_ck hw
    refine G_iaload dX6_has_10 c4 c5 ?_
    have hw := wp_if hw
    refine G_icmp_ge (tgt := 18) dX6_has_11 rfl (fun c6 => ?_) (fun c6 => ?_)
    · have hw := hw.1 c6
      refine G_iconst (v := (0 : Int32)) dX6_has_18 (by decide) ?_
      exact G_zreturn rfl dX6_has_19 rfl ⟨_, rfl, wp_ret hw⟩
    · have hw := hw.2 c6
      refine G_iconst (v := (1 : Int32)) dX6_has_14 (by decide) ?_
      refine G_goto (tgt := 19) dX6_has_15 rfl ?_
      exact G_zreturn rfl dX6_has_19 rfl ⟨_, rfl, wp_ret hw⟩
set_option maxHeartbeats 4000000 in
set_option maxRecDepth 100000 in
theorem s_X4_stockOf {Γ : GX} (hs : SF Γ) {N : Nat} (l0 : Nat) (l1 : Int32) (l2 : Int32) (h : PH) (Q : Int32 → PH → Prop) (hw : wp (f_X4_stockOf N l0 l1 l2 h) Q) : Spec Γ yX4_stockOf cX4_stockOf 3 (some .int) (1, 0, 0) [.ref l0, .int l1, .int l2] h (q_i Q) := by
  refine Spec.of (by decide) (Nat.le_of_ble_eq_true rfl) [some (.ref l0), some (.int l1), some (.int l2)] rfl ?_
  unfold f_X4_stockOf at hw
  refine G_iload_n dX4_stockOf_0 rfl ?_
  have hw := wp_if hw
  refine G_if_lt (tgt := 18) dX4_stockOf_1 rfl (fun c1 => ?_) (fun c1 => ?_)
  · have hw := hw.1 c1
    refine G_iconst (v := (0 : Int32)) dX4_stockOf_18 (by decide) ?_
    exact G_ireturn rfl dX4_stockOf_19 ⟨_, rfl, wp_ret hw⟩
  · have hw := hw.2 c1
    refine G_iload_n dX4_stockOf_4 rfl ?_
    refine G_iconst (v := (4 : Int32)) dX4_stockOf_5 (by decide) ?_
    have hw := wp_if hw
    refine G_icmp_ge (tgt := 18) dX4_stockOf_6 rfl (fun c2 => ?_) (fun c2 => ?_)
    · have hw := hw.1 c2
      refine G_iconst (v := (0 : Int32)) dX4_stockOf_18 (by decide) ?_
      exact G_ireturn rfl dX4_stockOf_19 ⟨_, rfl, wp_ret hw⟩
    · have hw := hw.2 c2
      refine G_iload_n dX4_stockOf_9 rfl ?_
      have hw := wp_if hw
      refine G_if_lt (tgt := 18) dX4_stockOf_10 rfl (fun c3 => ?_) (fun c3 => ?_)
      · have hw := hw.1 c3
        refine G_iconst (v := (0 : Int32)) dX4_stockOf_18 (by decide) ?_
        exact G_ireturn rfl dX4_stockOf_19 ⟨_, rfl, wp_ret hw⟩
      · have hw := hw.2 c3
        refine G_iload_n dX4_stockOf_13 rfl ?_
        refine G_iconst (v := (5 : Int32)) dX4_stockOf_14 (by decide) ?_
        have hw := wp_if hw
        refine G_icmp_lt (tgt := 20) dX4_stockOf_15 rfl (fun c4 => ?_) (fun c4 => ?_)
        · have hw := hw.1 c4
          refine G_aload_n dX4_stockOf_20 rfl ?_
          obtain ⟨c5, hw⟩ := wp_ck hw
          refine G_getR fl_X4_stock w_220 dX4_stockOf_21 c5 ?_
          obtain ⟨a6, ea6, hw⟩ := wp_rq hw
          refine G.sure ea6 ?_
          refine G_iload_n dX4_stockOf_24 rfl ?_
          refine G_iconst (v := (5 : Int32)) dX4_stockOf_25 (by decide) ?_
          refine G_imul dX4_stockOf_26 ?_
          refine G_iload_n dX4_stockOf_27 rfl ?_
          refine G_iadd dX4_stockOf_28 ?_
          obtain ⟨c7, hw⟩ := wp_ck hw
          obtain ⟨c8, hw⟩ := wp_ck hw
          refine G_iaload dX4_stockOf_29 c7 c8 ?_
          exact G_ireturn rfl dX4_stockOf_30 ⟨_, rfl, wp_ret hw⟩
        · have hw := hw.2 c4
          refine G_iconst (v := (0 : Int32)) dX4_stockOf_18 (by decide) ?_
          exact G_ireturn rfl dX4_stockOf_19 ⟨_, rfl, wp_ret hw⟩
set_option maxHeartbeats 4000000 in
set_option maxRecDepth 100000 in
theorem s_X10_house {Γ : GX} (hs : SF Γ) {N : Nat} (l0 : Nat) (l1 : Int32) (l2 : Int32) (h : PH) (Q : Int32 → PH → Prop) (hw : wp (f_X10_house N l0 l1 l2 h) Q) : Spec Γ yX10_house cX10_house 4 (some .int) (2, 0, 0) [.ref l0, .int l1, .int l2] h (q_i Q) := by
  refine Spec.of (by decide) (Nat.le_of_ble_eq_true rfl) [some (.ref l0), some (.int l1), some (.int l2), none] rfl ?_
  unfold f_X10_house at hw
  refine G_aload_n dX10_house_0 rfl ?_
  obtain ⟨c1, hw⟩ := wp_ck hw
  refine G_getR fl_X10_valley w_507 dX10_house_1 c1 ?_
  obtain ⟨a2, ea2, hw⟩ := wp_rq hw
  refine G.sure ea2 ?_
  refine G_iconst (v := (2 : Int32)) dX10_house_4 (by decide) ?_
  refine G_iload_n dX10_house_5 rfl ?_
  obtain ⟨c5, hw⟩ := wp_ck hw
  refine G_callV (As := [.int (2 : Int32), .int l1]) (s_X6_has hs a2 (2 : Int32) l1 h _ (wp_cl hw)) ca_X6_has w_955 w_956 (ci := 6) rfl (by decide) w_954 c5 (Nat.le_of_ble_eq_true rfl) (Nat.le_of_ble_eq_true rfl) rfl (Nat.le_of_ble_eq_true rfl) (Nat.le_of_ble_eq_true rfl) (Nat.le_of_ble_eq_true rfl) dX10_house_6 rfl (fun v h4 hq => ?_)
  obtain ⟨r3, rfl, hw⟩ := hq
  refine G.cse (cs' := (0, 0)) rfl ?_
  show GZ _ _ _ _ _ _ _ 9 _ (.int r3 :: []) _ _
  have hw := wp_if hw
  refine G_if_eq (tgt := 16) dX10_house_9 rfl (fun c6 => ?_) (fun c6 => ?_)
  · have hw := hw.1 c6
    refine G_bipush (v := (-2 : Int32)) dX10_house_16 (by decide) ?_
    exact G_ireturn rfl dX10_house_18 ⟨_, rfl, wp_ret hw⟩
  · have hw := hw.2 c6
    refine G_iload_n dX10_house_12 rfl ?_
    have hw := wp_if hw
    refine G_if_ge (tgt := 19) dX10_house_13 rfl (fun c7 => ?_) (fun c7 => ?_)
    · have hw := hw.1 c7
      refine G_aload_n dX10_house_19 rfl ?_
      obtain ⟨c8, hw⟩ := wp_ck hw
      refine G_getR fl_X10_now w_498 dX10_house_20 c8 ?_
      obtain ⟨a9, ea9, hw⟩ := wp_rq hw
      refine G.sure ea9 ?_
      obtain ⟨c10, hw⟩ := wp_ck hw
      refine G_getNR fl_X2_state w_257 dX10_house_23 c10 ?_
      obtain ⟨a11, ea11, hw⟩ := wp_rq hw
      refine G.sure ea11 ?_
      refine G_astore_n (lv' := [some (.ref l0), some (.int l1), some (.int l2), some (.ref a11)]) dX10_house_26 (Nat.le_of_ble_eq_true rfl) rfl ?_
      refine G_iload_n dX10_house_27 rfl ?_
      have hw := wp_if hw
      by_cases n0 : l2 = 0
      · have hw := hw.1 n0
        refine G_tableIn (off := 28) (tgt := 56) dX10_house_28 (by rw [n0]; decide) (by rw [n0]; decide) (by rw [n0]; rfl) rfl ?_
        refine G_aload_n dX10_house_56 rfl ?_
        refine G_getR fl_X10_valley w_507 dX10_house_57 c8 ?_
        obtain ⟨a12, ea12, hw⟩ := wp_rq hw
        refine G.sure ea12 ?_
        obtain ⟨c13, hw⟩ := wp_ck hw
        refine G_getNR fl_X6_houseFlue w_444 dX10_house_60 c13 ?_
        obtain ⟨a14, ea14, hw⟩ := wp_rq hw
        refine G.sure ea14 ?_
        refine G_iload_n dX10_house_63 rfl ?_
        obtain ⟨c15, hw⟩ := wp_ck hw
        obtain ⟨c16, hw⟩ := wp_ck hw
        refine G_iaload dX10_house_64 c15 c16 ?_
        exact G_ireturn rfl dX10_house_65 ⟨_, rfl, wp_ret hw⟩
      have hw := hw.2 n0
      have hw := wp_if hw
      by_cases n1 : l2 = 1
      · have hw := hw.1 n1
        refine G_tableIn (off := 38) (tgt := 66) dX10_house_28 (by rw [n1]; decide) (by rw [n1]; decide) (by rw [n1]; rfl) rfl ?_
        refine G_aload_n dX10_house_66 rfl ?_
        obtain ⟨c17, hw⟩ := wp_ck hw
        refine G_getNR fl_X4_fuel w_223 dX10_house_67 c17 ?_
        obtain ⟨a18, ea18, hw⟩ := wp_rq hw
        refine G.sure ea18 ?_
        refine G_iload_n dX10_house_70 rfl ?_
        obtain ⟨c19, hw⟩ := wp_ck hw
        obtain ⟨c20, hw⟩ := wp_ck hw
        refine G_iaload dX10_house_71 c19 c20 ?_
        exact G_ireturn rfl dX10_house_72 ⟨_, rfl, wp_ret hw⟩
      have hw := hw.2 n1
      have hw := wp_if hw
      by_cases n2 : l2 = 2
      · have hw := hw.1 n2
        refine G_tableIn (off := 45) (tgt := 73) dX10_house_28 (by rw [n2]; decide) (by rw [n2]; decide) (by rw [n2]; rfl) rfl ?_
        refine G_aload_n dX10_house_73 rfl ?_
        obtain ⟨c21, hw⟩ := wp_ck hw
        refine G_getNR fl_X4_left w_226 dX10_house_74 c21 ?_
        obtain ⟨a22, ea22, hw⟩ := wp_rq hw
        refine G.sure ea22 ?_
        refine G_iload_n dX10_house_77 rfl ?_
        obtain ⟨c23, hw⟩ := wp_ck hw
        obtain ⟨c24, hw⟩ := wp_ck hw
        refine G_iaload dX10_house_78 c23 c24 ?_
        exact G_ireturn rfl dX10_house_79 ⟨_, rfl, wp_ret hw⟩
      have hw := hw.2 n2
      refine G_tableOut (tgt := 80) dX10_house_28 ?_ rfl ?_
      · rcases Int.lt_or_le l2.toInt (0) with q | q
        · exact Or.inl q
        · refine Or.inr ?_
          have m0 : l2.toInt ≠ 0 := fun q => n0 (Int32.toInt_inj.mp (by rw [q]; rfl))
          have m1 : l2.toInt ≠ 1 := fun q => n1 (Int32.toInt_inj.mp (by rw [q]; rfl))
          have m2 : l2.toInt ≠ 2 := fun q => n2 (Int32.toInt_inj.mp (by rw [q]; rfl))
          omega
      refine G_aload_n dX10_house_80 rfl ?_
      refine G_getR fl_X10_valley w_507 dX10_house_81 c8 ?_
      obtain ⟨a25, ea25, hw⟩ := wp_rq hw
      refine G.sure ea25 ?_
      refine G_iconst (v := (0 : Int32)) dX10_house_84 (by decide) ?_
      refine G_iload_n dX10_house_85 rfl ?_
      refine G_iconst (v := (3 : Int32)) dX10_house_86 (by decide) ?_
      refine G_isub dX10_house_87 ?_
      obtain ⟨c28, hw⟩ := wp_ck hw
      refine G_callV (As := [.int (0 : Int32), .int (l2 - (3 : Int32))]) (s_X6_has hs a25 (0 : Int32) (l2 - (3 : Int32)) h4 _ (wp_cl hw)) ca_X6_has w_955 w_956 (ci := 6) rfl (by decide) w_954 c28 (Nat.le_of_ble_eq_true rfl) (Nat.le_of_ble_eq_true rfl) rfl (Nat.le_of_ble_eq_true rfl) (Nat.le_of_ble_eq_true rfl) (Nat.le_of_ble_eq_true rfl) dX10_house_88 rfl (fun v h27 hq => ?_)
      obtain ⟨r26, rfl, hw⟩ := hq
      refine G.cse (cs' := (0, 0)) rfl ?_
      show GZ _ _ _ _ _ _ _ 91 _ (.int r26 :: []) _ _
      have hw := wp_if hw
      refine G_if_eq (tgt := 105) dX10_house_91 rfl (fun c29 => ?_) (fun c29 => ?_)
      · have hw := hw.1 c29
        refine G_bipush (v := (-2 : Int32)) dX10_house_105 (by decide) ?_
        exact G_ireturn rfl dX10_house_107 ⟨_, rfl, wp_ret hw⟩
      · have hw := hw.2 c29
        refine G_aload_n dX10_house_94 rfl ?_
        refine G_iload_n dX10_house_95 rfl ?_
        refine G_iload_n dX10_house_96 rfl ?_
        refine G_iconst (v := (3 : Int32)) dX10_house_97 (by decide) ?_
        refine G_isub dX10_house_98 ?_
        obtain ⟨c32, hw⟩ := wp_ck hw
        refine G_callV (As := [.int l1, .int (l2 - (3 : Int32))]) (s_X4_stockOf hs a11 l1 (l2 - (3 : Int32)) h27 _ (wp_cl hw)) ca_X4_stockOf w_959 w_960 (ci := 4) rfl (by decide) w_958 c32 (Nat.le_of_ble_eq_true rfl) (Nat.le_of_ble_eq_true rfl) rfl (Nat.le_of_ble_eq_true rfl) (Nat.le_of_ble_eq_true rfl) (Nat.le_of_ble_eq_true rfl) dX10_house_99 rfl (fun v h31 hq => ?_)
        obtain ⟨r30, rfl, hw⟩ := hq
        refine G.cse (cs' := (0, 0)) rfl ?_
        show GZ _ _ _ _ _ _ _ 102 _ (.int r30 :: []) _ _
        refine G_goto (tgt := 107) dX10_house_102 rfl ?_
        exact G_ireturn rfl dX10_house_107 ⟨_, rfl, wp_ret hw⟩
    · have hw := hw.2 c7
      refine G_bipush (v := (-2 : Int32)) dX10_house_16 (by decide) ?_
      exact G_ireturn rfl dX10_house_18 ⟨_, rfl, wp_ret hw⟩
set_option maxHeartbeats 4000000 in
set_option maxRecDepth 100000 in
theorem f_X6_housesAt_30_ok {Γ : GX} (hs : SF Γ) {N : Nat} {K_4 : Nat → Int32 → Int32 → Int32 → PH → Option (Int32 × PH)} (hK_4 : ∀ (l0 : Nat) (l1 : Int32) (l2 : Int32) (l3 : Int32) (h : PH) (Q : Int32 → PH → Prop), wp (K_4 l0 l1 l2 l3 h) Q → G Γ yX6_housesAt cX6_housesAt 4 (some .int) (1, 0, 0) 4 [some (.ref l0), some (.int l1), some (.int l2), some (.int l3)] [] h (0, 0) (q_i Q)) (l0 : Nat) (l1 : Int32) (l2 : Int32) (l3 : Int32) (h : PH) (Q : Int32 → PH → Prop) (hw : wp (f_X6_housesAt_30 N K_4 l0 l1 l2 l3 h) Q) : G Γ yX6_housesAt cX6_housesAt 4 (some .int) (1, 0, 0) 30 [some (.ref l0), some (.int l1), some (.int l2), some (.int l3)] [] h (0, 0) (q_i Q) := by
  unfold f_X6_housesAt_30 at hw
  obtain ⟨v1, ev1⟩ : ∃ z : Int32, z = l3 + (1 : Int32) := ⟨_, rfl⟩
  have hw := wp_bd hw v1 ev1
  refine G_iinc (v := v1) (lv' := [some (.ref l0), some (.int l1), some (.int l2), some (.int v1)]) dX6_housesAt_30 rfl (by rw [ev1]; rfl) (Nat.le_of_ble_eq_true rfl) rfl ?_
  refine G_goto (tgt := 4) dX6_housesAt_33 rfl ?_
  refine G.less [some (.ref l0), some (.int l1), some (.int l2), some (.int v1)] ⟨rfl, ⟨rfl, ⟨rfl, ⟨rfl, trivial⟩⟩⟩⟩ ?_
  exact hK_4 _ _ _ _ h Q hw
set_option maxHeartbeats 4000000 in
set_option maxRecDepth 100000 in
theorem f_X6_housesAt_4_bok {Γ : GX} (hs : SF Γ) {N : Nat} {K_4 : Nat → Int32 → Int32 → Int32 → PH → Option (Int32 × PH)} (hK_4 : ∀ (l0 : Nat) (l1 : Int32) (l2 : Int32) (l3 : Int32) (h : PH) (Q : Int32 → PH → Prop), wp (K_4 l0 l1 l2 l3 h) Q → G Γ yX6_housesAt cX6_housesAt 4 (some .int) (1, 0, 0) 4 [some (.ref l0), some (.int l1), some (.int l2), some (.int l3)] [] h (0, 0) (q_i Q)) (l0 : Nat) (l1 : Int32) (l2 : Int32) (l3 : Int32) (h : PH) (Q : Int32 → PH → Prop) (hw : wp (f_X6_housesAt_4_b N K_4 l0 l1 l2 l3 h) Q) : G Γ yX6_housesAt cX6_housesAt 4 (some .int) (1, 0, 0) 4 [some (.ref l0), some (.int l1), some (.int l2), some (.int l3)] [] h (0, 0) (q_i Q) := by
  unfold f_X6_housesAt_4_b at hw
  refine G_iload_n dX6_housesAt_4 rfl ?_
  refine G_aload_n dX6_housesAt_5 rfl ?_
  obtain ⟨c1, hw⟩ := wp_ck hw
  refine G_getR fl_X6_many w_426 dX6_housesAt_6 c1 ?_
  obtain ⟨a2, ea2, hw⟩ := wp_rq hw
  refine G.sure ea2 ?_
  refine G_iconst (v := (2 : Int32)) dX6_housesAt_9 (by decide) ?_
  obtain ⟨c3, hw⟩ := wp_ck hw
  obtain ⟨c4, hw⟩ := wp_ck hw
  refine G_ialoadK (k := 2) dX6_housesAt_10 c3 (by decide) rfl c4 ?_
  have hw := wp_if hw
  refine G_icmp_ge (tgt := 36) dX6_housesAt_11 rfl (fun c5 => ?_) (fun c5 => ?_)
  · have hw := hw.1 c5
    refine G_iload_n dX6_housesAt_36 rfl ?_
    exact G_ireturn rfl dX6_housesAt_37 ⟨_, rfl, wp_ret hw⟩
  · have hw := hw.2 c5
    refine G_aload_n dX6_housesAt_14 rfl ?_
    refine G_getR fl_X6_houseFlue w_441 dX6_housesAt_15 c1 ?_
    obtain ⟨a6, ea6, hw⟩ := wp_rq hw
    refine G.sure ea6 ?_
    refine G_iload_n dX6_housesAt_18 rfl ?_
    obtain ⟨c7, hw⟩ := wp_ck hw
    obtain ⟨c8, hw⟩ := wp_ck hw
    refine G_iaload dX6_housesAt_19 c7 c8 ?_
    refine G_iload_n dX6_housesAt_20 rfl ?_
    have hw := wp_if hw
    refine G_icmp_ne (tgt := 30) dX6_housesAt_21 rfl (fun c9 => ?_) (fun c9 => ?_)
    · have hw := hw.2 c9
      refine G.less [some (.ref l0), some (.int l1), some (.int l2), some (.int l3)] ⟨rfl, ⟨rfl, ⟨rfl, ⟨rfl, trivial⟩⟩⟩⟩ ?_
      exact f_X6_housesAt_30_ok hs hK_4 _ _ _ _ h Q hw
    · have hw := hw.1 c9
      refine G_iload_n dX6_housesAt_24 rfl ?_
      refine G_iconst (v := (1 : Int32)) dX6_housesAt_25 (by decide) ?_
      refine G_iload_n dX6_housesAt_26 rfl ?_
      refine G_ishl dX6_housesAt_27 ?_
      refine G_ior dX6_housesAt_28 ?_
      refine G.topi fun v10 ev10 => ?_
      have hw := wp_bd hw v10 ev10
      refine G_istore_n (lv' := [some (.ref l0), some (.int l1), some (.int v10), some (.int l3)]) dX6_housesAt_29 (Nat.le_of_ble_eq_true rfl) rfl ?_
      refine G.less [some (.ref l0), some (.int l1), some (.int v10), some (.int l3)] ⟨rfl, ⟨rfl, ⟨rfl, ⟨rfl, trivial⟩⟩⟩⟩ ?_
      exact f_X6_housesAt_30_ok hs hK_4 _ _ _ _ h Q hw
theorem f_X6_housesAt_4_ok {Γ : GX} (hs : SF Γ) {N : Nat} : ∀ (n : Nat) (l0 : Nat) (l1 : Int32) (l2 : Int32) (l3 : Int32) (h : PH) (Q : Int32 → PH → Prop), wp (f_X6_housesAt_4 N n l0 l1 l2 l3 h) Q → G Γ yX6_housesAt cX6_housesAt 4 (some .int) (1, 0, 0) 4 [some (.ref l0), some (.int l1), some (.int l2), some (.int l3)] [] h (0, 0) (q_i Q)
  | 0, _, _, _, _, _, Q, hw => (wp_no hw).elim
  | n + 1, l0, l1, l2, l3, h, Q, hw => f_X6_housesAt_4_bok (N := N) hs (f_X6_housesAt_4_ok (N := N) hs n) l0 l1 l2 l3 h Q hw
set_option maxHeartbeats 4000000 in
set_option maxRecDepth 100000 in
theorem s_X6_housesAt {Γ : GX} (hs : SF Γ) {N : Nat} (l0 : Nat) (l1 : Int32) (h : PH) (Q : Int32 → PH → Prop) (hw : wp (f_X6_housesAt N l0 l1 h) Q) : Spec Γ yX6_housesAt cX6_housesAt 4 (some .int) (1, 0, 0) [.ref l0, .int l1] h (q_i Q) := by
  refine Spec.of (by decide) (Nat.le_of_ble_eq_true rfl) [some (.ref l0), some (.int l1), none, none] rfl ?_
  unfold f_X6_housesAt at hw
  refine G_iconst (v := (0 : Int32)) dX6_housesAt_0 (by decide) ?_
  refine G_istore_n (lv' := [some (.ref l0), some (.int l1), some (.int (0 : Int32)), none]) dX6_housesAt_1 (Nat.le_of_ble_eq_true rfl) rfl ?_
  refine G_iconst (v := (0 : Int32)) dX6_housesAt_2 (by decide) ?_
  refine G_istore_n (lv' := [some (.ref l0), some (.int l1), some (.int (0 : Int32)), some (.int (0 : Int32))]) dX6_housesAt_3 (Nat.le_of_ble_eq_true rfl) rfl ?_
  refine G.less [some (.ref l0), some (.int l1), some (.int (0 : Int32)), some (.int (0 : Int32))] ⟨rfl, ⟨rfl, ⟨rfl, ⟨rfl, trivial⟩⟩⟩⟩ ?_
  exact f_X6_housesAt_4_ok hs N _ _ _ _ h Q hw
set_option maxHeartbeats 4000000 in
set_option maxRecDepth 100000 in
theorem s_X6_windAt {Γ : GX} (hs : SF Γ) {N : Nat} (l0 : Nat) (l1 : Int32) (h : PH) (Q : Int32 → PH → Prop) (hw : wp (f_X6_windAt N l0 l1 h) Q) : Spec Γ yX6_windAt cX6_windAt 2 (some .int) (1, 0, 0) [.ref l0, .int l1] h (q_i Q) := by
  refine Spec.of (by decide) (Nat.le_of_ble_eq_true rfl) [some (.ref l0), some (.int l1)] rfl ?_
  unfold f_X6_windAt at hw
  refine G_aload_n dX6_windAt_0 rfl ?_
  obtain ⟨c1, hw⟩ := wp_ck hw
  refine G_getI fl_X6_windCount w_459 dX6_windAt_1 c1 ?_
  have hw := wp_if hw
  refine G_if_le (tgt := 25) dX6_windAt_4 rfl (fun c2 => ?_) (fun c2 => ?_)
  · have hw := hw.1 c2
    refine G_iconst (v := (0 : Int32)) dX6_windAt_25 (by decide) ?_
    exact G_ireturn rfl dX6_windAt_26 ⟨_, rfl, wp_ret hw⟩
  · have hw := hw.2 c2
    refine G_iload_n dX6_windAt_7 rfl ?_
    have hw := wp_if hw
    refine G_if_lt (tgt := 25) dX6_windAt_8 rfl (fun c3 => ?_) (fun c3 => ?_)
    · have hw := hw.1 c3
      refine G_iconst (v := (0 : Int32)) dX6_windAt_25 (by decide) ?_
      exact G_ireturn rfl dX6_windAt_26 ⟨_, rfl, wp_ret hw⟩
    · have hw := hw.2 c3
      refine G_aload_n dX6_windAt_11 rfl ?_
      refine G_getR fl_X6_winds w_457 dX6_windAt_12 c1 ?_
      obtain ⟨a4, ea4, hw⟩ := wp_rq hw
      refine G.sure ea4 ?_
      refine G_iload_n dX6_windAt_15 rfl ?_
      refine G_aload_n dX6_windAt_16 rfl ?_
      refine G_getI fl_X6_windCount w_459 dX6_windAt_17 c1 ?_
      obtain ⟨c5, hw⟩ := wp_ck hw
      refine G_irem dX6_windAt_20 c5 ?_
      obtain ⟨c6, hw⟩ := wp_ck hw
      obtain ⟨c7, hw⟩ := wp_ck hw
      refine G_iaload dX6_windAt_21 c6 c7 ?_
      refine G_goto (tgt := 26) dX6_windAt_22 rfl ?_
      exact G_ireturn rfl dX6_windAt_26 ⟨_, rfl, wp_ret hw⟩
set_option maxHeartbeats 4000000 in
set_option maxRecDepth 100000 in
theorem s_X1_joined {Γ : GX} (hs : SF Γ) {N : Nat} (l0 : Int32) (l1 : Int32) (l2 : Int32) (h : PH) (Q : Int32 → PH → Prop) (hw : wp (f_X1_joined N l0 l1 l2 h) Q) : Spec Γ yX1_joined cX1_joined 3 (some .int) (1, 0, 0) [.int l0, .int l1, .int l2] h (q_i Q) := by
  refine Spec.of (by decide) (Nat.le_of_ble_eq_true rfl) [some (.int l0), some (.int l1), some (.int l2)] rfl ?_
  unfold f_X1_joined at hw
  refine G_iload_n dX1_joined_0 rfl ?_
  have hw := wp_if hw
  by_cases n0 : l0 = -12
  · have hw := hw.1 n0
    refine G_tableIn (off := 93) (tgt := 94) dX1_joined_1 (by rw [n0]; decide) (by rw [n0]; decide) (by rw [n0]; rfl) rfl ?_
    refine G_iload_n dX1_joined_94 rfl ?_
    refine G_iload_n dX1_joined_95 rfl ?_
    refine G_isub dX1_joined_96 ?_
    exact G_ireturn rfl dX1_joined_97 ⟨_, rfl, wp_ret hw⟩
  have hw := hw.2 n0
  have hw := wp_if hw
  by_cases n1 : l0 = -11
  · have hw := hw.1 n1
    refine G_tableIn (off := 89) (tgt := 90) dX1_joined_1 (by rw [n1]; decide) (by rw [n1]; decide) (by rw [n1]; rfl) rfl ?_
    refine G_iload_n dX1_joined_90 rfl ?_
    refine G_iload_n dX1_joined_91 rfl ?_
    refine G_iadd dX1_joined_92 ?_
    exact G_ireturn rfl dX1_joined_93 ⟨_, rfl, wp_ret hw⟩
  have hw := hw.2 n1
  have hw := wp_if hw
  by_cases n2 : l0 = -10
  · have hw := hw.1 n2
    refine G_tableIn (off := 78) (tgt := 79) dX1_joined_1 (by rw [n2]; decide) (by rw [n2]; decide) (by rw [n2]; rfl) rfl ?_
    refine G_iload_n dX1_joined_79 rfl ?_
    refine G_iload_n dX1_joined_80 rfl ?_
    have hw := wp_if hw
    refine G_icmp_ne (tgt := 88) dX1_joined_81 rfl (fun c1 => ?_) (fun c1 => ?_)
    · have hw := hw.2 c1
      refine G_iconst (v := (0 : Int32)) dX1_joined_88 (by decide) ?_
      exact G_ireturn rfl dX1_joined_89 ⟨_, rfl, wp_ret hw⟩
    · have hw := hw.1 c1
      refine G_iconst (v := (1 : Int32)) dX1_joined_84 (by decide) ?_
      refine G_goto (tgt := 89) dX1_joined_85 rfl ?_
      exact G_ireturn rfl dX1_joined_89 ⟨_, rfl, wp_ret hw⟩
  have hw := hw.2 n2
  have hw := wp_if hw
  by_cases n3 : l0 = -9
  · have hw := hw.1 n3
    refine G_tableIn (off := 67) (tgt := 68) dX1_joined_1 (by rw [n3]; decide) (by rw [n3]; decide) (by rw [n3]; rfl) rfl ?_
    refine G_iload_n dX1_joined_68 rfl ?_
    refine G_iload_n dX1_joined_69 rfl ?_
    have hw := wp_if hw
    refine G_icmp_ge (tgt := 77) dX1_joined_70 rfl (fun c2 => ?_) (fun c2 => ?_)
    · have hw := hw.1 c2
      refine G_iconst (v := (0 : Int32)) dX1_joined_77 (by decide) ?_
      exact G_ireturn rfl dX1_joined_78 ⟨_, rfl, wp_ret hw⟩
    · have hw := hw.2 c2
      refine G_iconst (v := (1 : Int32)) dX1_joined_73 (by decide) ?_
      refine G_goto (tgt := 78) dX1_joined_74 rfl ?_
      exact G_ireturn rfl dX1_joined_78 ⟨_, rfl, wp_ret hw⟩
  have hw := hw.2 n3
  have hw := wp_if hw
  by_cases n4 : l0 = -8
  · have hw := hw.1 n4
    refine G_tableIn (off := 53) (tgt := 54) dX1_joined_1 (by rw [n4]; decide) (by rw [n4]; decide) (by rw [n4]; rfl) rfl ?_
    refine G_iload_n dX1_joined_54 rfl ?_
    have hw := wp_if hw
    refine G_if_ne (tgt := 62) dX1_joined_55 rfl (fun c3 => ?_) (fun c3 => ?_)
    · have hw := hw.2 c3
      refine G_iconst (v := (1 : Int32)) dX1_joined_62 (by decide) ?_
      refine G_goto (tgt := 67) dX1_joined_63 rfl ?_
      exact G_ireturn rfl dX1_joined_67 ⟨_, rfl, wp_ret hw⟩
    · have hw := hw.1 c3
      refine G_iload_n dX1_joined_58 rfl ?_
      have hw := wp_if hw
      refine G_if_eq (tgt := 66) dX1_joined_59 rfl (fun c4 => ?_) (fun c4 => ?_)
      · have hw := hw.1 c4
        refine G_iconst (v := (0 : Int32)) dX1_joined_66 (by decide) ?_
        exact G_ireturn rfl dX1_joined_67 ⟨_, rfl, wp_ret hw⟩
      · have hw := hw.2 c4
        refine G_iconst (v := (1 : Int32)) dX1_joined_62 (by decide) ?_
        refine G_goto (tgt := 67) dX1_joined_63 rfl ?_
        exact G_ireturn rfl dX1_joined_67 ⟨_, rfl, wp_ret hw⟩
  have hw := hw.2 n4
  have hw := wp_if hw
  by_cases n5 : l0 = -7
  · have hw := hw.1 n5
    refine G_tableIn (off := 39) (tgt := 40) dX1_joined_1 (by rw [n5]; decide) (by rw [n5]; decide) (by rw [n5]; rfl) rfl ?_
    refine G_iload_n dX1_joined_40 rfl ?_
    have hw := wp_if hw
    refine G_if_eq (tgt := 52) dX1_joined_41 rfl (fun c5 => ?_) (fun c5 => ?_)
    · have hw := hw.1 c5
      refine G_iconst (v := (0 : Int32)) dX1_joined_52 (by decide) ?_
      exact G_ireturn rfl dX1_joined_53 ⟨_, rfl, wp_ret hw⟩
    · have hw := hw.2 c5
      refine G_iload_n dX1_joined_44 rfl ?_
      have hw := wp_if hw
      refine G_if_eq (tgt := 52) dX1_joined_45 rfl (fun c6 => ?_) (fun c6 => ?_)
      · have hw := hw.1 c6
        refine G_iconst (v := (0 : Int32)) dX1_joined_52 (by decide) ?_
        exact G_ireturn rfl dX1_joined_53 ⟨_, rfl, wp_ret hw⟩
      · have hw := hw.2 c6
        refine G_iconst (v := (1 : Int32)) dX1_joined_48 (by decide) ?_
        refine G_goto (tgt := 53) dX1_joined_49 rfl ?_
        exact G_ireturn rfl dX1_joined_53 ⟨_, rfl, wp_ret hw⟩
  have hw := hw.2 n5
  refine G_tableOut (tgt := 98) dX1_joined_1 ?_ rfl ?_
  · rcases Int.lt_or_le l0.toInt (-12) with q | q
    · exact Or.inl q
    · refine Or.inr ?_
      have m0 : l0.toInt ≠ -12 := fun q => n0 (Int32.toInt_inj.mp (by rw [q]; rfl))
      have m1 : l0.toInt ≠ -11 := fun q => n1 (Int32.toInt_inj.mp (by rw [q]; rfl))
      have m2 : l0.toInt ≠ -10 := fun q => n2 (Int32.toInt_inj.mp (by rw [q]; rfl))
      have m3 : l0.toInt ≠ -9 := fun q => n3 (Int32.toInt_inj.mp (by rw [q]; rfl))
      have m4 : l0.toInt ≠ -8 := fun q => n4 (Int32.toInt_inj.mp (by rw [q]; rfl))
      have m5 : l0.toInt ≠ -7 := fun q => n5 (Int32.toInt_inj.mp (by rw [q]; rfl))
      omega
  refine G_iload_n dX1_joined_98 rfl ?_
  refine G_iload_n dX1_joined_99 rfl ?_
  refine G_imul dX1_joined_100 ?_
  exact G_ireturn rfl dX1_joined_101 ⟨_, rfl, wp_ret hw⟩
set_option maxHeartbeats 4000000 in
set_option maxRecDepth 100000 in
theorem f_X1_worth_187_ok {Γ : GX} (hs : SF Γ) {N : Nat} {K_6 : Nat → Int32 → Int32 → Int32 → Int32 → Int32 → Int32 → Int32 → PH → Option (Int32 × PH)} (hK_6 : ∀ (l0 : Nat) (l1 : Int32) (l2 : Int32) (l3 : Int32) (l4 : Int32) (l5 : Int32) (l6 : Int32) (l7 : Int32) (h : PH) (Q : Int32 → PH → Prop), wp (K_6 l0 l1 l2 l3 l4 l5 l6 l7 h) Q → G Γ yX1_worth cX1_worth 9 (some .int) (2, 0, 0) 6 [some (.ref l0), some (.int l1), some (.int l2), some (.int l3), some (.int l4), some (.int l5), some (.int l6), some (.int l7), none] [] h (0, 0) (q_i Q)) (l0 : Nat) (l1 : Int32) (l2 : Int32) (l3 : Int32) (l4 : Int32) (l5 : Int32) (l6 : Int32) (l7 : Int32) (h : PH) (Q : Int32 → PH → Prop) (hw : wp (f_X1_worth_187 N K_6 l0 l1 l2 l3 l4 l5 l6 l7 h) Q) : G Γ yX1_worth cX1_worth 9 (some .int) (2, 0, 0) 187 [some (.ref l0), some (.int l1), some (.int l2), some (.int l3), some (.int l4), some (.int l5), some (.int l6), some (.int l7), none] [] h (0, 0) (q_i Q) := by
  unfold f_X1_worth_187 at hw
  obtain ⟨v1, ev1⟩ : ∃ z : Int32, z = l7 + (1 : Int32) := ⟨_, rfl⟩
  have hw := wp_bd hw v1 ev1
  refine G_iinc (v := v1) (lv' := [some (.ref l0), some (.int l1), some (.int l2), some (.int l3), some (.int l4), some (.int l5), some (.int l6), some (.int v1), none]) dX1_worth_187 rfl (by rw [ev1]; rfl) (Nat.le_of_ble_eq_true rfl) rfl ?_
  refine G_goto (tgt := 6) dX1_worth_190 rfl ?_
  refine G.less [some (.ref l0), some (.int l1), some (.int l2), some (.int l3), some (.int l4), some (.int l5), some (.int l6), some (.int v1), none] ⟨rfl, ⟨rfl, ⟨rfl, ⟨rfl, ⟨rfl, ⟨rfl, ⟨rfl, ⟨rfl, trivial⟩⟩⟩⟩⟩⟩⟩⟩ ?_
  exact hK_6 _ _ _ _ _ _ _ _ h Q hw
set_option maxHeartbeats 4000000 in
set_option maxRecDepth 100000 in
theorem f_X1_worth_100_ok {Γ : GX} (hs : SF Γ) {N : Nat} {K_6 : Nat → Int32 → Int32 → Int32 → Int32 → Int32 → Int32 → Int32 → PH → Option (Int32 × PH)} (hK_6 : ∀ (l0 : Nat) (l1 : Int32) (l2 : Int32) (l3 : Int32) (l4 : Int32) (l5 : Int32) (l6 : Int32) (l7 : Int32) (h : PH) (Q : Int32 → PH → Prop), wp (K_6 l0 l1 l2 l3 l4 l5 l6 l7 h) Q → G Γ yX1_worth cX1_worth 9 (some .int) (2, 0, 0) 6 [some (.ref l0), some (.int l1), some (.int l2), some (.int l3), some (.int l4), some (.int l5), some (.int l6), some (.int l7), none] [] h (0, 0) (q_i Q)) (s0 : Int32) (s1 : Int32) (s2 : Nat) (l0 : Nat) (l1 : Int32) (l2 : Int32) (l3 : Int32) (l4 : Int32) (l5 : Int32) (l6 : Int32) (l7 : Int32) (h : PH) (Q : Int32 → PH → Prop) (hw : wp (f_X1_worth_100 N K_6 s0 s1 s2 l0 l1 l2 l3 l4 l5 l6 l7 h) Q) : G Γ yX1_worth cX1_worth 9 (some .int) (2, 0, 0) 100 [some (.ref l0), some (.int l1), some (.int l2), some (.int l3), some (.int l4), some (.int l5), some (.int l6), some (.int l7), none] [.int s0, .int s1, .ref s2] h (0, 0) (q_i Q) := by
  unfold f_X1_worth_100 at hw
  obtain ⟨c1, hw⟩ := wp_ck hw
  obtain ⟨c2, hw⟩ := wp_ck hw
  refine G_iastore dX1_worth_100 c1 c2 ?_
  refine G.nmh fun h3 eh3 => ?_
  have hw := wp_bd hw h3 eh3
  obtain ⟨v4, ev4⟩ : ∃ z : Int32, z = l6 + (1 : Int32) := ⟨_, rfl⟩
  have hw := wp_bd hw v4 ev4
  refine G_iinc (v := v4) (lv' := [some (.ref l0), some (.int l1), some (.int l2), some (.int l3), some (.int l4), some (.int l5), some (.int v4), some (.int l7), none]) dX1_worth_101 rfl (by rw [ev4]; rfl) (Nat.le_of_ble_eq_true rfl) rfl ?_
  refine G_goto (tgt := 187) dX1_worth_104 rfl ?_
  refine G.less [some (.ref l0), some (.int l1), some (.int l2), some (.int l3), some (.int l4), some (.int l5), some (.int v4), some (.int l7), none] ⟨rfl, ⟨rfl, ⟨rfl, ⟨rfl, ⟨rfl, ⟨rfl, ⟨rfl, ⟨rfl, trivial⟩⟩⟩⟩⟩⟩⟩⟩ ?_
  exact f_X1_worth_187_ok hs hK_6 _ _ _ _ _ _ _ _ h3 Q hw
set_option maxHeartbeats 4000000 in
set_option maxRecDepth 100000 in
theorem f_X1_worth_144_ok {Γ : GX} (hs : SF Γ) {N : Nat} {K_6 : Nat → Int32 → Int32 → Int32 → Int32 → Int32 → Int32 → Int32 → PH → Option (Int32 × PH)} (hK_6 : ∀ (l0 : Nat) (l1 : Int32) (l2 : Int32) (l3 : Int32) (l4 : Int32) (l5 : Int32) (l6 : Int32) (l7 : Int32) (h : PH) (Q : Int32 → PH → Prop), wp (K_6 l0 l1 l2 l3 l4 l5 l6 l7 h) Q → G Γ yX1_worth cX1_worth 9 (some .int) (2, 0, 0) 6 [some (.ref l0), some (.int l1), some (.int l2), some (.int l3), some (.int l4), some (.int l5), some (.int l6), some (.int l7), none] [] h (0, 0) (q_i Q)) (s0 : Int32) (s1 : Int32) (s2 : Nat) (l0 : Nat) (l1 : Int32) (l2 : Int32) (l3 : Int32) (l4 : Int32) (l5 : Int32) (l6 : Int32) (l7 : Int32) (h : PH) (Q : Int32 → PH → Prop) (hw : wp (f_X1_worth_144 N K_6 s0 s1 s2 l0 l1 l2 l3 l4 l5 l6 l7 h) Q) : G Γ yX1_worth cX1_worth 9 (some .int) (2, 0, 0) 144 [some (.ref l0), some (.int l1), some (.int l2), some (.int l3), some (.int l4), some (.int l5), some (.int l6), some (.int l7), none] [.int s0, .int s1, .ref s2] h (0, 0) (q_i Q) := by
  unfold f_X1_worth_144 at hw
  obtain ⟨c1, hw⟩ := wp_ck hw
  obtain ⟨c2, hw⟩ := wp_ck hw
  refine G_iastore dX1_worth_144 c1 c2 ?_
  refine G.nmh fun h3 eh3 => ?_
  have hw := wp_bd hw h3 eh3
  refine G_goto (tgt := 187) dX1_worth_145 rfl ?_
  refine G.less [some (.ref l0), some (.int l1), some (.int l2), some (.int l3), some (.int l4), some (.int l5), some (.int l6), some (.int l7), none] ⟨rfl, ⟨rfl, ⟨rfl, ⟨rfl, ⟨rfl, ⟨rfl, ⟨rfl, ⟨rfl, trivial⟩⟩⟩⟩⟩⟩⟩⟩ ?_
  exact f_X1_worth_187_ok hs hK_6 _ _ _ _ _ _ _ _ h3 Q hw
set_option maxHeartbeats 4000000 in
set_option maxRecDepth 100000 in
theorem f_X1_worth_6_bok {Γ : GX} (hs : SF Γ) {N : Nat} {K_6 : Nat → Int32 → Int32 → Int32 → Int32 → Int32 → Int32 → Int32 → PH → Option (Int32 × PH)} (hK_6 : ∀ (l0 : Nat) (l1 : Int32) (l2 : Int32) (l3 : Int32) (l4 : Int32) (l5 : Int32) (l6 : Int32) (l7 : Int32) (h : PH) (Q : Int32 → PH → Prop), wp (K_6 l0 l1 l2 l3 l4 l5 l6 l7 h) Q → G Γ yX1_worth cX1_worth 9 (some .int) (2, 0, 0) 6 [some (.ref l0), some (.int l1), some (.int l2), some (.int l3), some (.int l4), some (.int l5), some (.int l6), some (.int l7), none] [] h (0, 0) (q_i Q)) (l0 : Nat) (l1 : Int32) (l2 : Int32) (l3 : Int32) (l4 : Int32) (l5 : Int32) (l6 : Int32) (l7 : Int32) (h : PH) (Q : Int32 → PH → Prop) (hw : wp (f_X1_worth_6_b N K_6 l0 l1 l2 l3 l4 l5 l6 l7 h) Q) : G Γ yX1_worth cX1_worth 9 (some .int) (2, 0, 0) 6 [some (.ref l0), some (.int l1), some (.int l2), some (.int l3), some (.int l4), some (.int l5), some (.int l6), some (.int l7), none] [] h (0, 0) (q_i Q) := by
  unfold f_X1_worth_6_b at hw
  refine G_iload dX1_worth_6 rfl ?_
  refine G_aload_n dX1_worth_8 rfl ?_
  obtain ⟨c1, hw⟩ := wp_ck hw
  refine G_getI fl_X1_length w_415 dX1_worth_9 c1 ?_
  have hw := wp_if hw
  refine G_icmp_ge (tgt := 193) dX1_worth_12 rfl (fun c2 => ?_) (fun c2 => ?_)
  · have hw := hw.1 c2
    refine G_iload dX1_worth_193 rfl ?_
    have hw := wp_if hw
    refine G_if_le (tgt := 207) dX1_worth_195 rfl (fun c3 => ?_) (fun c3 => ?_)
    · have hw := hw.1 c3
      refine G_iconst (v := (0 : Int32)) dX1_worth_207 (by decide) ?_
      exact G_ireturn rfl dX1_worth_208 ⟨_, rfl, wp_ret hw⟩
    · have hw := hw.2 c3
      refine G_aload_n dX1_worth_198 rfl ?_
      refine G_getR fl_X1_waiting w_414 dX1_worth_199 c1 ?_
      obtain ⟨a4, ea4, hw⟩ := wp_rq hw
      refine G.sure ea4 ?_
      refine G_iconst (v := (0 : Int32)) dX1_worth_202 (by decide) ?_
      obtain ⟨c5, hw⟩ := wp_ck hw
      obtain ⟨c6, hw⟩ := wp_ck hw
      refine G_ialoadK (k := 0) dX1_worth_203 c5 (by decide) rfl c6 ?_
      refine G_goto (tgt := 208) dX1_worth_204 rfl ?_
      exact G_ireturn rfl dX1_worth_208 ⟨_, rfl, wp_ret hw⟩
  · have hw := hw.2 c2
    refine G_aload_n dX1_worth_15 rfl ?_
    refine G_getR fl_X1_code w_413 dX1_worth_16 c1 ?_
    obtain ⟨a7, ea7, hw⟩ := wp_rq hw
    refine G.sure ea7 ?_
    refine G_iload dX1_worth_19 rfl ?_
    obtain ⟨c8, hw⟩ := wp_ck hw
    obtain ⟨c9, hw⟩ := wp_ck hw
    refine G_iaload dX1_worth_21 c8 c9 ?_
    refine G.topi fun v10 ev10 => ?_
    have hw := wp_bd hw v10 ev10
    refine G_istore (lv' := [some (.ref l0), some (.int l1), some (.int l2), some (.int l3), some (.int l4), some (.int l5), some (.int l6), some (.int l7), some (.int v10)]) dX1_worth_22 (Nat.le_of_ble_eq_true rfl) rfl ?_
    refine G_iload dX1_worth_24 rfl ?_
    refine G_bipush (v := (-5 : Int32)) dX1_worth_26 (by decide) ?_
    have hw := wp_if hw
    refine G_icmp_lt (tgt := 107) dX1_worth_28 rfl (fun c11 => ?_) (fun c11 => ?_)
    · have hw := hw.1 c11
      refine G_iload dX1_worth_107 rfl ?_
      refine G_bipush (v := (-6 : Int32)) dX1_worth_109 (by decide) ?_
      have hw := wp_if hw
      refine G_icmp_ne (tgt := 148) dX1_worth_111 rfl (fun c12 => ?_) (fun c12 => ?_)
      · have hw := hw.2 c12
        refine G_iload dX1_worth_148 rfl ?_
        refine G_iconst (v := (1 : Int32)) dX1_worth_150 (by decide) ?_
        have hw := wp_if hw
        refine G_icmp_le (tgt := 187) dX1_worth_151 rfl (fun c13 => ?_) (fun c13 => ?_)
        · have hw := hw.1 c13
          refine G.less [some (.ref l0), some (.int l1), some (.int l2), some (.int l3), some (.int l4), some (.int l5), some (.int l6), some (.int l7), none] ⟨rfl, ⟨rfl, ⟨rfl, ⟨rfl, ⟨rfl, ⟨rfl, ⟨rfl, ⟨rfl, trivial⟩⟩⟩⟩⟩⟩⟩⟩ ?_
          exact f_X1_worth_187_ok hs hK_6 _ _ _ _ _ _ _ _ h Q hw
        · have hw := hw.2 c13
          obtain ⟨v14, ev14⟩ : ∃ z : Int32, z = l6 + (-1 : Int32) := ⟨_, rfl⟩
          have hw := wp_bd hw v14 ev14
          refine G_iinc (v := v14) (lv' := [some (.ref l0), some (.int l1), some (.int l2), some (.int l3), some (.int l4), some (.int l5), some (.int v14), some (.int l7), some (.int v10)]) dX1_worth_154 rfl (by rw [ev14]; rfl) (Nat.le_of_ble_eq_true rfl) rfl ?_
          refine G_aload_n dX1_worth_157 rfl ?_
          refine G_getR fl_X1_waiting w_414 dX1_worth_158 c1 ?_
          obtain ⟨a15, ea15, hw⟩ := wp_rq hw
          refine G.sure ea15 ?_
          refine G_iload dX1_worth_161 rfl ?_
          refine G_iconst (v := (1 : Int32)) dX1_worth_163 (by decide) ?_
          refine G_isub dX1_worth_164 ?_
          refine G_iload dX1_worth_165 rfl ?_
          refine G_aload_n dX1_worth_167 rfl ?_
          refine G_getR fl_X1_waiting w_414 dX1_worth_168 c1 ?_
          obtain ⟨a16, ea16, hw⟩ := wp_rq hw
          refine G.sure ea16 ?_
          refine G_iload dX1_worth_171 rfl ?_
          refine G_iconst (v := (1 : Int32)) dX1_worth_173 (by decide) ?_
          refine G_isub dX1_worth_174 ?_
          obtain ⟨c17, hw⟩ := wp_ck hw
          obtain ⟨c18, hw⟩ := wp_ck hw
          refine G_iaload dX1_worth_175 c17 c18 ?_
          refine G_aload_n dX1_worth_176 rfl ?_
          refine G_getR fl_X1_waiting w_414 dX1_worth_177 c1 ?_
          obtain ⟨a19, ea19, hw⟩ := wp_rq hw
          refine G.sure ea19 ?_
          refine G_iload dX1_worth_180 rfl ?_
          obtain ⟨c20, hw⟩ := wp_ck hw
          obtain ⟨c21, hw⟩ := wp_ck hw
          refine G_iaload dX1_worth_182 c20 c21 ?_
          refine G_callS (As := [.int v10, .int (hI h a16 (ix (v14 - (1 : Int32)))), .int (hI h a19 (ix v14))]) (s_X1_joined hs v10 (hI h a16 (ix (v14 - (1 : Int32)))) (hI h a19 (ix v14)) h _ (wp_cl hw)) ca_X1_joined w_988 w_987 (Nat.le_of_ble_eq_true rfl) (Nat.le_of_ble_eq_true rfl) rfl (Nat.le_of_ble_eq_true rfl) (Nat.le_of_ble_eq_true rfl) (Nat.le_of_ble_eq_true rfl) dX1_worth_183 rfl (fun v h23 hq => ?_)
          obtain ⟨r22, rfl, hw⟩ := hq
          refine G.cse (cs' := (0, 0)) rfl ?_
          show GZ _ _ _ _ _ _ _ 186 _ (.int r22 :: [.int (v14 - (1 : Int32)), .ref a15]) _ _
          obtain ⟨c24, hw⟩ := wp_ck hw
          obtain ⟨c25, hw⟩ := wp_ck hw
          refine G_iastore dX1_worth_186 c24 c25 ?_
          refine G.nmh fun h26 eh26 => ?_
          have hw := wp_bd hw h26 eh26
          refine G.less [some (.ref l0), some (.int l1), some (.int l2), some (.int l3), some (.int l4), some (.int l5), some (.int v14), some (.int l7), none] ⟨rfl, ⟨rfl, ⟨rfl, ⟨rfl, ⟨rfl, ⟨rfl, ⟨rfl, ⟨rfl, trivial⟩⟩⟩⟩⟩⟩⟩⟩ ?_
          exact f_X1_worth_187_ok hs hK_6 _ _ _ _ _ _ _ _ h26 Q hw
      · have hw := hw.1 c12
        refine G_iload dX1_worth_114 rfl ?_
        have hw := wp_if hw
        refine G_if_le (tgt := 187) dX1_worth_116 rfl (fun c27 => ?_) (fun c27 => ?_)
        · have hw := hw.1 c27
          refine G.less [some (.ref l0), some (.int l1), some (.int l2), some (.int l3), some (.int l4), some (.int l5), some (.int l6), some (.int l7), none] ⟨rfl, ⟨rfl, ⟨rfl, ⟨rfl, ⟨rfl, ⟨rfl, ⟨rfl, ⟨rfl, trivial⟩⟩⟩⟩⟩⟩⟩⟩ ?_
          exact f_X1_worth_187_ok hs hK_6 _ _ _ _ _ _ _ _ h Q hw
        · have hw := hw.2 c27
          refine G_aload_n dX1_worth_119 rfl ?_
          refine G_getR fl_X1_waiting w_414 dX1_worth_120 c1 ?_
          obtain ⟨a28, ea28, hw⟩ := wp_rq hw
          refine G.sure ea28 ?_
          refine G_iload dX1_worth_123 rfl ?_
          refine G_iconst (v := (1 : Int32)) dX1_worth_125 (by decide) ?_
          refine G_isub dX1_worth_126 ?_
          refine G_aload_n dX1_worth_127 rfl ?_
          refine G_getR fl_X1_waiting w_414 dX1_worth_128 c1 ?_
          obtain ⟨a29, ea29, hw⟩ := wp_rq hw
          refine G.sure ea29 ?_
          refine G_iload dX1_worth_131 rfl ?_
          refine G_iconst (v := (1 : Int32)) dX1_worth_133 (by decide) ?_
          refine G_isub dX1_worth_134 ?_
          obtain ⟨c30, hw⟩ := wp_ck hw
          obtain ⟨c31, hw⟩ := wp_ck hw
          refine G_iaload dX1_worth_135 c30 c31 ?_
          have hw := wp_if hw
          refine G_if_ne (tgt := 143) dX1_worth_136 rfl (fun c32 => ?_) (fun c32 => ?_)
          · have hw := hw.2 c32
            refine G_iconst (v := (0 : Int32)) dX1_worth_143 (by decide) ?_
            refine G.less [some (.ref l0), some (.int l1), some (.int l2), some (.int l3), some (.int l4), some (.int l5), some (.int l6), some (.int l7), none] ⟨rfl, ⟨rfl, ⟨rfl, ⟨rfl, ⟨rfl, ⟨rfl, ⟨rfl, ⟨rfl, trivial⟩⟩⟩⟩⟩⟩⟩⟩ ?_
            exact f_X1_worth_144_ok hs hK_6 _ _ _ _ _ _ _ _ _ _ _ h Q hw
          · have hw := hw.1 c32
            refine G_iconst (v := (1 : Int32)) dX1_worth_139 (by decide) ?_
            refine G_goto (tgt := 144) dX1_worth_140 rfl ?_
            refine G.less [some (.ref l0), some (.int l1), some (.int l2), some (.int l3), some (.int l4), some (.int l5), some (.int l6), some (.int l7), none] ⟨rfl, ⟨rfl, ⟨rfl, ⟨rfl, ⟨rfl, ⟨rfl, ⟨rfl, ⟨rfl, trivial⟩⟩⟩⟩⟩⟩⟩⟩ ?_
            exact f_X1_worth_144_ok hs hK_6 _ _ _ _ _ _ _ _ _ _ _ h Q hw
    · have hw := hw.2 c11
      refine G_iload dX1_worth_31 rfl ?_
      refine G_bipush (v := (32 : Int32)) dX1_worth_33 (by decide) ?_
      have hw := wp_if hw
      refine G_icmp_ge (tgt := 187) dX1_worth_35 rfl (fun c33 => ?_) (fun c33 => ?_)
      · have hw := hw.1 c33
        refine G.less [some (.ref l0), some (.int l1), some (.int l2), some (.int l3), some (.int l4), some (.int l5), some (.int l6), some (.int l7), none] ⟨rfl, ⟨rfl, ⟨rfl, ⟨rfl, ⟨rfl, ⟨rfl, ⟨rfl, ⟨rfl, trivial⟩⟩⟩⟩⟩⟩⟩⟩ ?_
        exact f_X1_worth_187_ok hs hK_6 _ _ _ _ _ _ _ _ h Q hw
      · have hw := hw.2 c33
        refine G_aload_n dX1_worth_38 rfl ?_
        refine G_getR fl_X1_waiting w_414 dX1_worth_39 c1 ?_
        obtain ⟨a34, ea34, hw⟩ := wp_rq hw
        refine G.sure ea34 ?_
        refine G_iload dX1_worth_42 rfl ?_
        refine G_iload dX1_worth_44 rfl ?_
        have hw := wp_if hw
        refine G_if_lt (tgt := 54) dX1_worth_46 rfl (fun c35 => ?_) (fun c35 => ?_)
        · have hw := hw.1 c35
          refine G_iload dX1_worth_54 rfl ?_
          refine G_iconst (v := (-1 : Int32)) dX1_worth_56 (by decide) ?_
          have hw := wp_if hw
          refine G_icmp_ne (tgt := 64) dX1_worth_57 rfl (fun c36 => ?_) (fun c36 => ?_)
          · have hw := hw.2 c36
            refine G_iload dX1_worth_64 rfl ?_
            refine G_bipush (v := (-2 : Int32)) dX1_worth_66 (by decide) ?_
            have hw := wp_if hw
            refine G_icmp_ne (tgt := 75) dX1_worth_68 rfl (fun c37 => ?_) (fun c37 => ?_)
            · have hw := hw.2 c37
              refine G_iload dX1_worth_75 rfl ?_
              refine G_bipush (v := (-3 : Int32)) dX1_worth_77 (by decide) ?_
              have hw := wp_if hw
              refine G_icmp_ne (tgt := 86) dX1_worth_79 rfl (fun c38 => ?_) (fun c38 => ?_)
              · have hw := hw.2 c38
                refine G_iload dX1_worth_86 rfl ?_
                refine G_bipush (v := (-4 : Int32)) dX1_worth_88 (by decide) ?_
                have hw := wp_if hw
                refine G_icmp_ne (tgt := 98) dX1_worth_90 rfl (fun c39 => ?_) (fun c39 => ?_)
                · have hw := hw.2 c39
                  refine G_iload dX1_worth_98 rfl ?_
                  refine G.less [some (.ref l0), some (.int l1), some (.int l2), some (.int l3), some (.int l4), some (.int l5), some (.int l6), some (.int l7), none] ⟨rfl, ⟨rfl, ⟨rfl, ⟨rfl, ⟨rfl, ⟨rfl, ⟨rfl, ⟨rfl, trivial⟩⟩⟩⟩⟩⟩⟩⟩ ?_
                  exact f_X1_worth_100_ok hs hK_6 _ _ _ _ _ _ _ _ _ _ _ h Q hw
                · have hw := hw.1 c39
                  refine G_iload dX1_worth_93 rfl ?_
                  refine G_goto (tgt := 100) dX1_worth_95 rfl ?_
                  refine G.less [some (.ref l0), some (.int l1), some (.int l2), some (.int l3), some (.int l4), some (.int l5), some (.int l6), some (.int l7), none] ⟨rfl, ⟨rfl, ⟨rfl, ⟨rfl, ⟨rfl, ⟨rfl, ⟨rfl, ⟨rfl, trivial⟩⟩⟩⟩⟩⟩⟩⟩ ?_
                  exact f_X1_worth_100_ok hs hK_6 _ _ _ _ _ _ _ _ _ _ _ h Q hw
              · have hw := hw.1 c38
                refine G_iload_n dX1_worth_82 rfl ?_
                refine G_goto (tgt := 100) dX1_worth_83 rfl ?_
                refine G.less [some (.ref l0), some (.int l1), some (.int l2), some (.int l3), some (.int l4), some (.int l5), some (.int l6), some (.int l7), none] ⟨rfl, ⟨rfl, ⟨rfl, ⟨rfl, ⟨rfl, ⟨rfl, ⟨rfl, ⟨rfl, trivial⟩⟩⟩⟩⟩⟩⟩⟩ ?_
                exact f_X1_worth_100_ok hs hK_6 _ _ _ _ _ _ _ _ _ _ _ h Q hw
            · have hw := hw.1 c37
              refine G_iload_n dX1_worth_71 rfl ?_
              refine G_goto (tgt := 100) dX1_worth_72 rfl ?_
              refine G.less [some (.ref l0), some (.int l1), some (.int l2), some (.int l3), some (.int l4), some (.int l5), some (.int l6), some (.int l7), none] ⟨rfl, ⟨rfl, ⟨rfl, ⟨rfl, ⟨rfl, ⟨rfl, ⟨rfl, ⟨rfl, trivial⟩⟩⟩⟩⟩⟩⟩⟩ ?_
              exact f_X1_worth_100_ok hs hK_6 _ _ _ _ _ _ _ _ _ _ _ h Q hw
          · have hw := hw.1 c36
            refine G_iload_n dX1_worth_60 rfl ?_
            refine G_goto (tgt := 100) dX1_worth_61 rfl ?_
            refine G.less [some (.ref l0), some (.int l1), some (.int l2), some (.int l3), some (.int l4), some (.int l5), some (.int l6), some (.int l7), none] ⟨rfl, ⟨rfl, ⟨rfl, ⟨rfl, ⟨rfl, ⟨rfl, ⟨rfl, ⟨rfl, trivial⟩⟩⟩⟩⟩⟩⟩⟩ ?_
            exact f_X1_worth_100_ok hs hK_6 _ _ _ _ _ _ _ _ _ _ _ h Q hw
        · have hw := hw.2 c35
          refine G_iload dX1_worth_49 rfl ?_
          refine G_goto (tgt := 100) dX1_worth_51 rfl ?_
          refine G.less [some (.ref l0), some (.int l1), some (.int l2), some (.int l3), some (.int l4), some (.int l5), some (.int l6), some (.int l7), none] ⟨rfl, ⟨rfl, ⟨rfl, ⟨rfl, ⟨rfl, ⟨rfl, ⟨rfl, ⟨rfl, trivial⟩⟩⟩⟩⟩⟩⟩⟩ ?_
          exact f_X1_worth_100_ok hs hK_6 _ _ _ _ _ _ _ _ _ _ _ h Q hw
theorem f_X1_worth_6_ok {Γ : GX} (hs : SF Γ) {N : Nat} : ∀ (n : Nat) (l0 : Nat) (l1 : Int32) (l2 : Int32) (l3 : Int32) (l4 : Int32) (l5 : Int32) (l6 : Int32) (l7 : Int32) (h : PH) (Q : Int32 → PH → Prop), wp (f_X1_worth_6 N n l0 l1 l2 l3 l4 l5 l6 l7 h) Q → G Γ yX1_worth cX1_worth 9 (some .int) (2, 0, 0) 6 [some (.ref l0), some (.int l1), some (.int l2), some (.int l3), some (.int l4), some (.int l5), some (.int l6), some (.int l7), none] [] h (0, 0) (q_i Q)
  | 0, _, _, _, _, _, _, _, _, _, Q, hw => (wp_no hw).elim
  | n + 1, l0, l1, l2, l3, l4, l5, l6, l7, h, Q, hw => f_X1_worth_6_bok (N := N) hs (f_X1_worth_6_ok (N := N) hs n) l0 l1 l2 l3 l4 l5 l6 l7 h Q hw
set_option maxHeartbeats 4000000 in
set_option maxRecDepth 100000 in
theorem s_X1_worth {Γ : GX} (hs : SF Γ) {N : Nat} (l0 : Nat) (l1 : Int32) (l2 : Int32) (l3 : Int32) (l4 : Int32) (l5 : Int32) (h : PH) (Q : Int32 → PH → Prop) (hw : wp (f_X1_worth N l0 l1 l2 l3 l4 l5 h) Q) : Spec Γ yX1_worth cX1_worth 9 (some .int) (2, 0, 0) [.ref l0, .int l1, .int l2, .int l3, .int l4, .int l5] h (q_i Q) := by
  refine Spec.of (by decide) (Nat.le_of_ble_eq_true rfl) [some (.ref l0), some (.int l1), some (.int l2), some (.int l3), some (.int l4), some (.int l5), none, none, none] rfl ?_
  unfold f_X1_worth at hw
  refine G_iconst (v := (0 : Int32)) dX1_worth_0 (by decide) ?_
  refine G_istore (lv' := [some (.ref l0), some (.int l1), some (.int l2), some (.int l3), some (.int l4), some (.int l5), some (.int (0 : Int32)), none, none]) dX1_worth_1 (Nat.le_of_ble_eq_true rfl) rfl ?_
  refine G_iconst (v := (0 : Int32)) dX1_worth_3 (by decide) ?_
  refine G_istore (lv' := [some (.ref l0), some (.int l1), some (.int l2), some (.int l3), some (.int l4), some (.int l5), some (.int (0 : Int32)), some (.int (0 : Int32)), none]) dX1_worth_4 (Nat.le_of_ble_eq_true rfl) rfl ?_
  refine G.less [some (.ref l0), some (.int l1), some (.int l2), some (.int l3), some (.int l4), some (.int l5), some (.int (0 : Int32)), some (.int (0 : Int32)), none] ⟨rfl, ⟨rfl, ⟨rfl, ⟨rfl, ⟨rfl, ⟨rfl, ⟨rfl, ⟨rfl, trivial⟩⟩⟩⟩⟩⟩⟩⟩ ?_
  exact f_X1_worth_6_ok hs N _ _ _ _ _ _ _ _ h Q hw
set_option maxHeartbeats 4000000 in
set_option maxRecDepth 100000 in
theorem s_X10_within {Γ : GX} (hs : SF Γ) {N : Nat} (l0 : Int32) (l1 : Int32) (h : PH) (Q : Int32 → PH → Prop) (hw : wp (f_X10_within N l0 l1 h) Q) : Spec Γ yX10_within cX10_within 2 (some .int) (2, 0, 0) [.int l0, .int l1] h (q_i Q) := by
  refine Spec.of (by decide) (Nat.le_of_ble_eq_true rfl) [some (.int l0), some (.int l1)] rfl ?_
  unfold f_X10_within at hw
  refine G_iconst (v := (0 : Int32)) dX10_within_0 (by decide) ?_
  refine G_iload_n dX10_within_1 rfl ?_
  refine G_iload_n dX10_within_2 rfl ?_
  refine G_mmin w_993 w_642 w_139 w_643 dX10_within_3 (Nat.le_of_ble_eq_true rfl) (Nat.le_of_ble_eq_true rfl) (Nat.le_of_ble_eq_true rfl) (Nat.le_of_ble_eq_true rfl) ?_
  refine G_mmax w_994 w_639 w_139 w_640 dX10_within_6 (Nat.le_of_ble_eq_true rfl) (Nat.le_of_ble_eq_true rfl) (Nat.le_of_ble_eq_true rfl) (Nat.le_of_ble_eq_true rfl) ?_
  exact G_ireturn rfl dX10_within_9 ⟨_, rfl, wp_ret hw⟩
set_option maxHeartbeats 4000000 in
set_option maxRecDepth 100000 in
theorem f_X6_givesOf_150_ok {Γ : GX} (hs : SF Γ) {N : Nat} (l0 : Nat) (l5 : Int32) (h : PH) (Q : Int32 → PH → Prop) (hw : wp (f_X6_givesOf_150 N l0 l5 h) Q) : G Γ yX6_givesOf cX6_givesOf 8 (some .int) (3, 0, 0) 150 [some (.ref l0), none, none, none, none, some (.int l5), none, none] [] h (0, 0) (q_i Q) := by
  unfold f_X6_givesOf_150 at hw
  refine G_aload_n dX6_givesOf_150 rfl ?_
  obtain ⟨c1, hw⟩ := wp_ck hw
  refine G_getR fl_X6_gifts w_465 dX6_givesOf_151 c1 ?_
  obtain ⟨a2, ea2, hw⟩ := wp_rq hw
  refine G.sure ea2 ?_
  refine G_iload dX6_givesOf_154 rfl ?_
  obtain ⟨c3, hw⟩ := wp_ck hw
  obtain ⟨c4, hw⟩ := wp_ck hw
  refine G_iaload dX6_givesOf_156 c3 c4 ?_
  exact G_ireturn rfl dX6_givesOf_157 ⟨_, rfl, wp_ret hw⟩
set_option maxHeartbeats 4000000 in
set_option maxRecDepth 100000 in
theorem f_X6_givesOf_133_ok {Γ : GX} (hs : SF Γ) {N : Nat} (s0 : Int32) (l0 : Nat) (l5 : Int32) (h : PH) (Q : Int32 → PH → Prop) (hw : wp (f_X6_givesOf_133 N s0 l0 l5 h) Q) : G Γ yX6_givesOf cX6_givesOf 8 (some .int) (3, 0, 0) 133 [some (.ref l0), none, none, none, none, some (.int l5), none, none] [.int s0] h (0, 0) (q_i Q) := by
  unfold f_X6_givesOf_133 at hw
  refine G_istore (lv' := [some (.ref l0), none, none, none, none, some (.int l5), none, some (.int s0)]) dX6_givesOf_133 (Nat.le_of_ble_eq_true rfl) rfl ?_
  refine G_aload_n dX6_givesOf_135 rfl ?_
  obtain ⟨c1, hw⟩ := wp_ck hw
  refine G_getR fl_X6_gifts w_465 dX6_givesOf_136 c1 ?_
  obtain ⟨a2, ea2, hw⟩ := wp_rq hw
  refine G.sure ea2 ?_
  refine G_iload dX6_givesOf_139 rfl ?_
  refine G_iload dX6_givesOf_141 rfl ?_
  refine G_sipush (v := (999 : Int32)) dX6_givesOf_143 (by decide) ?_
  refine G_callSN (As := [.int s0, .int (999 : Int32)]) (s_X10_within hs s0 (999 : Int32) h _ (wp_cl hw)) ca_X10_within w_991 w_990 (Nat.le_of_ble_eq_true rfl) (Nat.le_of_ble_eq_true rfl) rfl (Nat.le_of_ble_eq_true rfl) (Nat.le_of_ble_eq_true rfl) (Nat.le_of_ble_eq_true rfl) dX6_givesOf_146 rfl (fun v h4 hq => ?_)
  obtain ⟨r3, rfl, hw⟩ := hq
  refine G.cse (cs' := (0, 0)) rfl ?_
  show GZ _ _ _ _ _ _ _ 149 _ (.int r3 :: [.int l5, .ref a2]) _ _
  obtain ⟨c5, hw⟩ := wp_ck hw
  obtain ⟨c6, hw⟩ := wp_ck hw
  refine G_iastore dX6_givesOf_149 c5 c6 ?_
  refine G.nmh fun h7 eh7 => ?_
  have hw := wp_bd hw h7 eh7
  refine G.less [some (.ref l0), none, none, none, none, some (.int l5), none, none] ⟨rfl, ⟨rfl, trivial⟩⟩ ?_
  exact f_X6_givesOf_150_ok hs _ _ h7 Q hw
set_option maxHeartbeats 4000000 in
set_option maxRecDepth 100000 in
theorem f_X6_givesOf_93_ok {Γ : GX} (hs : SF Γ) {N : Nat} (s0 : Int32) (l0 : Nat) (l1 : Int32) (l2 : Int32) (l3 : Int32) (l4 : Int32) (l5 : Int32) (h : PH) (Q : Int32 → PH → Prop) (hw : wp (f_X6_givesOf_93 N s0 l0 l1 l2 l3 l4 l5 h) Q) : G Γ yX6_givesOf cX6_givesOf 8 (some .int) (3, 0, 0) 93 [some (.ref l0), some (.int l1), some (.int l2), some (.int l3), some (.int l4), some (.int l5), none, none] [.int s0] h (0, 0) (q_i Q) := by
  unfold f_X6_givesOf_93 at hw
  refine G_istore (lv' := [some (.ref l0), some (.int l1), some (.int l2), some (.int l3), some (.int l4), some (.int l5), some (.int s0), none]) dX6_givesOf_93 (Nat.le_of_ble_eq_true rfl) rfl ?_
  refine G_aload_n dX6_givesOf_95 rfl ?_
  obtain ⟨c1, hw⟩ := wp_ck hw
  refine G_getR fl_X6_gives w_461 dX6_givesOf_96 c1 ?_
  obtain ⟨a2, ea2, hw⟩ := wp_rq hw
  refine G.sure ea2 ?_
  obtain ⟨c5, hw⟩ := wp_ck hw
  refine G_callV (As := []) (s_X1_isTold hs a2 h _ (wp_cl hw)) ca_X1_isTold w_837 w_838 (ci := 1) rfl (by decide) w_982 c5 (Nat.le_of_ble_eq_true rfl) (Nat.le_of_ble_eq_true rfl) rfl (Nat.le_of_ble_eq_true rfl) (Nat.le_of_ble_eq_true rfl) (Nat.le_of_ble_eq_true rfl) dX6_givesOf_99 rfl (fun v h4 hq => ?_)
  obtain ⟨r3, rfl, hw⟩ := hq
  refine G.cse (cs' := (0, 0)) rfl ?_
  show GZ _ _ _ _ _ _ _ 102 _ (.int r3 :: []) _ _
  have hw := wp_if hw
  refine G_if_eq (tgt := 131) dX6_givesOf_102 rfl (fun c6 => ?_) (fun c6 => ?_)
  · have hw := hw.1 c6
    refine G_iload dX6_givesOf_131 rfl ?_
    refine G.less [some (.ref l0), none, none, none, none, some (.int l5), none, none] ⟨rfl, ⟨rfl, trivial⟩⟩ ?_
    exact f_X6_givesOf_133_ok hs _ _ _ h4 Q hw
  · have hw := hw.2 c6
    refine G_aload_n dX6_givesOf_105 rfl ?_
    obtain ⟨c7, hw⟩ := wp_ck hw
    refine G_getR fl_X6_gives w_461 dX6_givesOf_106 c7 ?_
    obtain ⟨a8, ea8, hw⟩ := wp_rq hw
    refine G.sure ea8 ?_
    refine G_aload_n dX6_givesOf_109 rfl ?_
    refine G_getR fl_X6_fuelDark w_433 dX6_givesOf_110 c7 ?_
    obtain ⟨a9, ea9, hw⟩ := wp_rq hw
    refine G.sure ea9 ?_
    refine G_iload_n dX6_givesOf_113 rfl ?_
    obtain ⟨c10, hw⟩ := wp_ck hw
    obtain ⟨c11, hw⟩ := wp_ck hw
    refine G_iaload dX6_givesOf_114 c10 c11 ?_
    refine G_aload_n dX6_givesOf_115 rfl ?_
    refine G_getR fl_X6_fuelSweet w_435 dX6_givesOf_116 c7 ?_
    obtain ⟨a12, ea12, hw⟩ := wp_rq hw
    refine G.sure ea12 ?_
    refine G_iload_n dX6_givesOf_119 rfl ?_
    obtain ⟨c13, hw⟩ := wp_ck hw
    obtain ⟨c14, hw⟩ := wp_ck hw
    refine G_iaload dX6_givesOf_120 c13 c14 ?_
    refine G_iload_n dX6_givesOf_121 rfl ?_
    refine G_iload_n dX6_givesOf_122 rfl ?_
    refine G_iload dX6_givesOf_123 rfl ?_
    obtain ⟨c17, hw⟩ := wp_ck hw
    refine G_callV (As := [.int (hI h4 a9 (ix l1)), .int (hI h4 a12 (ix l1)), .int l3, .int l2, .int l4]) (s_X1_worth hs a8 (hI h4 a9 (ix l1)) (hI h4 a12 (ix l1)) l3 l2 l4 h4 _ (wp_cl hw)) ca_X1_worth w_984 w_985 (ci := 1) rfl (by decide) w_983 c17 (Nat.le_of_ble_eq_true rfl) (Nat.le_of_ble_eq_true rfl) rfl (Nat.le_of_ble_eq_true rfl) (Nat.le_of_ble_eq_true rfl) (Nat.le_of_ble_eq_true rfl) dX6_givesOf_125 rfl (fun v h16 hq => ?_)
    obtain ⟨r15, rfl, hw⟩ := hq
    refine G.cse (cs' := (0, 0)) rfl ?_
    show GZ _ _ _ _ _ _ _ 128 _ (.int r15 :: []) _ _
    refine G_goto (tgt := 133) dX6_givesOf_128 rfl ?_
    refine G.less [some (.ref l0), none, none, none, none, some (.int l5), none, none] ⟨rfl, ⟨rfl, trivial⟩⟩ ?_
    exact f_X6_givesOf_133_ok hs _ _ _ h16 Q hw
set_option maxHeartbeats 4000000 in
set_option maxRecDepth 100000 in
theorem s_X6_givesOf {Γ : GX} (hs : SF Γ) {N : Nat} (l0 : Nat) (l1 : Int32) (l2 : Int32) (l3 : Int32) (l4 : Int32) (h : PH) (Q : Int32 → PH → Prop) (hw : wp (f_X6_givesOf N l0 l1 l2 l3 l4 h) Q) : Spec Γ yX6_givesOf cX6_givesOf 8 (some .int) (3, 0, 0) [.ref l0, .int l1, .int l2, .int l3, .int l4] h (q_i Q) := by
  refine Spec.of (by decide) (Nat.le_of_ble_eq_true rfl) [some (.ref l0), some (.int l1), some (.int l2), some (.int l3), some (.int l4), none, none, none] rfl ?_
  unfold f_X6_givesOf at hw
  refine G_iload_n dX6_givesOf_0 rfl ?_
  have hw := wp_if hw
  refine G_if_lt (tgt := 25) dX6_givesOf_1 rfl (fun c1 => ?_) (fun c1 => ?_)
  · have hw := hw.1 c1
    refine G_iconst (v := (0 : Int32)) dX6_givesOf_25 (by decide) ?_
    exact G_ireturn rfl dX6_givesOf_26 ⟨_, rfl, wp_ret hw⟩
  · have hw := hw.2 c1
    refine G_iload_n dX6_givesOf_4 rfl ?_
    refine G_aload_n dX6_givesOf_5 rfl ?_
    obtain ⟨c2, hw⟩ := wp_ck hw
    refine G_getR fl_X6_many w_426 dX6_givesOf_6 c2 ?_
    obtain ⟨a3, ea3, hw⟩ := wp_rq hw
    refine G.sure ea3 ?_
    refine G_iconst (v := (0 : Int32)) dX6_givesOf_9 (by decide) ?_
    obtain ⟨c4, hw⟩ := wp_ck hw
    obtain ⟨c5, hw⟩ := wp_ck hw
    refine G_ialoadK (k := 0) dX6_givesOf_10 c4 (by decide) rfl c5 ?_
    have hw := wp_if hw
    refine G_icmp_ge (tgt := 25) dX6_givesOf_11 rfl (fun c6 => ?_) (fun c6 => ?_)
    · have hw := hw.1 c6
      refine G_iconst (v := (0 : Int32)) dX6_givesOf_25 (by decide) ?_
      exact G_ireturn rfl dX6_givesOf_26 ⟨_, rfl, wp_ret hw⟩
    · have hw := hw.2 c6
      refine G_iload_n dX6_givesOf_14 rfl ?_
      refine G_iconst (v := (1 : Int32)) dX6_givesOf_15 (by decide) ?_
      have hw := wp_if hw
      refine G_icmp_lt (tgt := 25) dX6_givesOf_16 rfl (fun c7 => ?_) (fun c7 => ?_)
      · have hw := hw.1 c7
        refine G_iconst (v := (0 : Int32)) dX6_givesOf_25 (by decide) ?_
        exact G_ireturn rfl dX6_givesOf_26 ⟨_, rfl, wp_ret hw⟩
      · have hw := hw.2 c7
        refine G_iload_n dX6_givesOf_19 rfl ?_
        refine G_bipush (v := (9 : Int32)) dX6_givesOf_20 (by decide) ?_
        have hw := wp_if hw
        refine G_icmp_le (tgt := 27) dX6_givesOf_22 rfl (fun c8 => ?_) (fun c8 => ?_)
        · have hw := hw.1 c8
          refine G_iload_n dX6_givesOf_27 rfl ?_
          refine G_bipush (v := (10 : Int32)) dX6_givesOf_28 (by decide) ?_
          refine G_imul dX6_givesOf_30 ?_
          refine G_iload_n dX6_givesOf_31 rfl ?_
          refine G_iadd dX6_givesOf_32 ?_
          refine G_bipush (v := (10 : Int32)) dX6_givesOf_33 (by decide) ?_
          refine G_imul dX6_givesOf_35 ?_
          refine G_iload_n dX6_givesOf_36 rfl ?_
          refine G_iadd dX6_givesOf_37 ?_
          refine G_iconst (v := (2 : Int32)) dX6_givesOf_38 (by decide) ?_
          refine G_imul dX6_givesOf_39 ?_
          refine G_iload dX6_givesOf_40 rfl ?_
          refine G_iadd dX6_givesOf_42 ?_
          refine G.topi fun v9 ev9 => ?_
          have hw := wp_bd hw v9 ev9
          refine G_istore (lv' := [some (.ref l0), some (.int l1), some (.int l2), some (.int l3), some (.int l4), some (.int v9), none, none]) dX6_givesOf_43 (Nat.le_of_ble_eq_true rfl) rfl ?_
          refine G_iload dX6_givesOf_45 rfl ?_
          have hw := wp_if hw
          refine G_if_lt (tgt := 60) dX6_givesOf_47 rfl (fun c10 => ?_) (fun c10 => ?_)
          · have hw := hw.1 c10
            refine G_iconst (v := (0 : Int32)) dX6_givesOf_60 (by decide) ?_
            exact G_ireturn rfl dX6_givesOf_61 ⟨_, rfl, wp_ret hw⟩
          · have hw := hw.2 c10
            refine G_iload dX6_givesOf_50 rfl ?_
            refine G_aload_n dX6_givesOf_52 rfl ?_
            refine G_getR fl_X6_gifts w_465 dX6_givesOf_53 c2 ?_
            obtain ⟨a11, ea11, hw⟩ := wp_rq hw
            refine G.sure ea11 ?_
            obtain ⟨c12, hw⟩ := wp_ck hw
            refine G_alen12 dX6_givesOf_56 c12 ?_
            have hw := wp_if hw
            refine G_icmp_lt (tgt := 62) dX6_givesOf_57 rfl (fun c13 => ?_) (fun c13 => ?_)
            · have hw := hw.1 c13
              refine G_aload_n dX6_givesOf_62 rfl ?_
              refine G_getR fl_X6_gifts w_465 dX6_givesOf_63 c2 ?_
              obtain ⟨a14, ea14, hw⟩ := wp_rq hw
              refine G.sure ea14 ?_
              refine G_iload dX6_givesOf_66 rfl ?_
              obtain ⟨c15, hw⟩ := wp_ck hw
              obtain ⟨c16, hw⟩ := wp_ck hw
              refine G_iaload dX6_givesOf_68 c15 c16 ?_
              refine G_iconst (v := (-1 : Int32)) dX6_givesOf_69 (by decide) ?_
              have hw := wp_if hw
              refine G_icmp_ne (tgt := 150) dX6_givesOf_70 rfl (fun c17 => ?_) (fun c17 => ?_)
              · have hw := hw.2 c17
                refine G.less [some (.ref l0), none, none, none, none, some (.int v9), none, none] ⟨rfl, ⟨rfl, trivial⟩⟩ ?_
                exact f_X6_givesOf_150_ok hs _ _ h Q hw
              · have hw := hw.1 c17
                refine G_iload dX6_givesOf_73 rfl ?_
                have hw := wp_if hw
                refine G_if_ne (tgt := 87) dX6_givesOf_75 rfl (fun c18 => ?_) (fun c18 => ?_)
                · have hw := hw.2 c18
                  refine G_aload_n dX6_givesOf_87 rfl ?_
                  refine G_getR fl_X6_fuelSweet w_435 dX6_givesOf_88 c2 ?_
                  obtain ⟨a19, ea19, hw⟩ := wp_rq hw
                  refine G.sure ea19 ?_
                  refine G_iload_n dX6_givesOf_91 rfl ?_
                  obtain ⟨c20, hw⟩ := wp_ck hw
                  obtain ⟨c21, hw⟩ := wp_ck hw
                  refine G_iaload dX6_givesOf_92 c20 c21 ?_
                  refine G.less [some (.ref l0), some (.int l1), some (.int l2), some (.int l3), some (.int l4), some (.int v9), none, none] ⟨rfl, ⟨rfl, ⟨rfl, ⟨rfl, ⟨rfl, ⟨rfl, trivial⟩⟩⟩⟩⟩⟩ ?_
                  exact f_X6_givesOf_93_ok hs _ _ _ _ _ _ _ h Q hw
                · have hw := hw.1 c18
                  refine G_aload_n dX6_givesOf_78 rfl ?_
                  refine G_getR fl_X6_fuelDark w_433 dX6_givesOf_79 c2 ?_
                  obtain ⟨a22, ea22, hw⟩ := wp_rq hw
                  refine G.sure ea22 ?_
                  refine G_iload_n dX6_givesOf_82 rfl ?_
                  obtain ⟨c23, hw⟩ := wp_ck hw
                  obtain ⟨c24, hw⟩ := wp_ck hw
                  refine G_iaload dX6_givesOf_83 c23 c24 ?_
                  refine G_goto (tgt := 93) dX6_givesOf_84 rfl ?_
                  refine G.less [some (.ref l0), some (.int l1), some (.int l2), some (.int l3), some (.int l4), some (.int v9), none, none] ⟨rfl, ⟨rfl, ⟨rfl, ⟨rfl, ⟨rfl, ⟨rfl, trivial⟩⟩⟩⟩⟩⟩ ?_
                  exact f_X6_givesOf_93_ok hs _ _ _ _ _ _ _ h Q hw
            · have hw := hw.2 c13
              refine G_iconst (v := (0 : Int32)) dX6_givesOf_60 (by decide) ?_
              exact G_ireturn rfl dX6_givesOf_61 ⟨_, rfl, wp_ret hw⟩
        · have hw := hw.2 c8
          refine G_iconst (v := (0 : Int32)) dX6_givesOf_25 (by decide) ?_
          exact G_ireturn rfl dX6_givesOf_26 ⟨_, rfl, wp_ret hw⟩
set_option maxHeartbeats 4000000 in
set_option maxRecDepth 100000 in
theorem f_X4_smoke_57_ok {Γ : GX} (hs : SF Γ) {N : Nat} {K_16 : Nat → Nat → Int32 → Int32 → Int32 → Int32 → Int32 → PH → Option (Int32 × PH)} (hK_16 : ∀ (l0 : Nat) (l1 : Nat) (l2 : Int32) (l3 : Int32) (l4 : Int32) (l5 : Int32) (l6 : Int32) (h : PH) (Q : Int32 → PH → Prop), wp (K_16 l0 l1 l2 l3 l4 l5 l6 h) Q → G Γ yX4_smoke cX4_smoke 7 (some .int) (4, 0, 0) 16 [some (.ref l0), some (.ref l1), some (.int l2), some (.int l3), some (.int l4), some (.int l5), some (.int l6)] [] h (0, 0) (q_i Q)) (l0 : Nat) (l1 : Nat) (l2 : Int32) (l3 : Int32) (l4 : Int32) (l5 : Int32) (l6 : Int32) (h : PH) (Q : Int32 → PH → Prop) (hw : wp (f_X4_smoke_57 N K_16 l0 l1 l2 l3 l4 l5 l6 h) Q) : G Γ yX4_smoke cX4_smoke 7 (some .int) (4, 0, 0) 57 [some (.ref l0), some (.ref l1), some (.int l2), some (.int l3), some (.int l4), some (.int l5), some (.int l6)] [] h (0, 0) (q_i Q) := by
  unfold f_X4_smoke_57 at hw
  obtain ⟨v1, ev1⟩ : ∃ z : Int32, z = l6 + (1 : Int32) := ⟨_, rfl⟩
  have hw := wp_bd hw v1 ev1
  refine G_iinc (v := v1) (lv' := [some (.ref l0), some (.ref l1), some (.int l2), some (.int l3), some (.int l4), some (.int l5), some (.int v1)]) dX4_smoke_57 rfl (by rw [ev1]; rfl) (Nat.le_of_ble_eq_true rfl) rfl ?_
  refine G_goto (tgt := 16) dX4_smoke_60 rfl ?_
  refine G.less [some (.ref l0), some (.ref l1), some (.int l2), some (.int l3), some (.int l4), some (.int l5), some (.int v1)] ⟨rfl, ⟨rfl, ⟨rfl, ⟨rfl, ⟨rfl, ⟨rfl, ⟨rfl, trivial⟩⟩⟩⟩⟩⟩⟩ ?_
  exact hK_16 _ _ _ _ _ _ _ h Q hw
set_option maxHeartbeats 4000000 in
set_option maxRecDepth 100000 in
theorem f_X4_smoke_16_bok {Γ : GX} (hs : SF Γ) {N : Nat} {K_16 : Nat → Nat → Int32 → Int32 → Int32 → Int32 → Int32 → PH → Option (Int32 × PH)} (hK_16 : ∀ (l0 : Nat) (l1 : Nat) (l2 : Int32) (l3 : Int32) (l4 : Int32) (l5 : Int32) (l6 : Int32) (h : PH) (Q : Int32 → PH → Prop), wp (K_16 l0 l1 l2 l3 l4 l5 l6 h) Q → G Γ yX4_smoke cX4_smoke 7 (some .int) (4, 0, 0) 16 [some (.ref l0), some (.ref l1), some (.int l2), some (.int l3), some (.int l4), some (.int l5), some (.int l6)] [] h (0, 0) (q_i Q)) (l0 : Nat) (l1 : Nat) (l2 : Int32) (l3 : Int32) (l4 : Int32) (l5 : Int32) (l6 : Int32) (h : PH) (Q : Int32 → PH → Prop) (hw : wp (f_X4_smoke_16_b N K_16 l0 l1 l2 l3 l4 l5 l6 h) Q) : G Γ yX4_smoke cX4_smoke 7 (some .int) (4, 0, 0) 16 [some (.ref l0), some (.ref l1), some (.int l2), some (.int l3), some (.int l4), some (.int l5), some (.int l6)] [] h (0, 0) (q_i Q) := by
  unfold f_X4_smoke_16_b at hw
  refine G_iload dX4_smoke_16 rfl ?_
  refine G_iconst (v := (4 : Int32)) dX4_smoke_18 (by decide) ?_
  have hw := wp_if hw
  refine G_icmp_ge (tgt := 63) dX4_smoke_19 rfl (fun c1 => ?_) (fun c1 => ?_)
  · have hw := hw.1 c1
    refine G_iload dX4_smoke_63 rfl ?_
    refine G_sipush (v := (999 : Int32)) dX4_smoke_65 (by decide) ?_
    refine G_mmin w_995 w_642 w_139 w_643 dX4_smoke_68 (Nat.le_of_ble_eq_true rfl) (Nat.le_of_ble_eq_true rfl) (Nat.le_of_ble_eq_true rfl) (Nat.le_of_ble_eq_true rfl) ?_
    exact G_ireturn rfl dX4_smoke_71 ⟨_, rfl, wp_ret hw⟩
  · have hw := hw.2 c1
    refine G_iload_n dX4_smoke_22 rfl ?_
    refine G_iload dX4_smoke_23 rfl ?_
    refine G_ishr dX4_smoke_25 ?_
    refine G_iconst (v := (1 : Int32)) dX4_smoke_26 (by decide) ?_
    refine G_iand dX4_smoke_27 ?_
    have hw := wp_if hw
    refine G_if_eq (tgt := 57) dX4_smoke_28 rfl (fun c2 => ?_) (fun c2 => ?_)
    · have hw := hw.1 c2
      refine G.less [some (.ref l0), some (.ref l1), some (.int l2), some (.int l3), some (.int l4), some (.int l5), some (.int l6)] ⟨rfl, ⟨rfl, ⟨rfl, ⟨rfl, ⟨rfl, ⟨rfl, ⟨rfl, trivial⟩⟩⟩⟩⟩⟩⟩ ?_
      exact f_X4_smoke_57_ok hs hK_16 _ _ _ _ _ _ _ h Q hw
    · have hw := hw.2 c2
      refine G_iload dX4_smoke_31 rfl ?_
      refine G_aload_n dX4_smoke_33 rfl ?_
      refine G_aload_n dX4_smoke_34 rfl ?_
      obtain ⟨c3, hw⟩ := wp_ck hw
      refine G_getR fl_X4_fuel w_221 dX4_smoke_35 c3 ?_
      obtain ⟨a4, ea4, hw⟩ := wp_rq hw
      refine G.sure ea4 ?_
      refine G_iload dX4_smoke_38 rfl ?_
      obtain ⟨c5, hw⟩ := wp_ck hw
      obtain ⟨c6, hw⟩ := wp_ck hw
      refine G_iaload dX4_smoke_40 c5 c6 ?_
      refine G_aload_n dX4_smoke_41 rfl ?_
      refine G_getR fl_X4_left w_224 dX4_smoke_42 c3 ?_
      obtain ⟨a7, ea7, hw⟩ := wp_rq hw
      refine G.sure ea7 ?_
      refine G_iload dX4_smoke_45 rfl ?_
      obtain ⟨c8, hw⟩ := wp_ck hw
      obtain ⟨c9, hw⟩ := wp_ck hw
      refine G_iaload dX4_smoke_47 c8 c9 ?_
      refine G_iload dX4_smoke_48 rfl ?_
      refine G_iload_n dX4_smoke_50 rfl ?_
      obtain ⟨c12, hw⟩ := wp_ck hw
      refine G_callV (As := [.int (hI h a4 (ix l6)), .int (hI h a7 (ix l6)), .int l4, .int l3]) (s_X6_givesOf hs l1 (hI h a4 (ix l6)) (hI h a7 (ix l6)) l4 l3 h _ (wp_cl hw)) ca_X6_givesOf w_979 w_980 (ci := 6) rfl (by decide) w_978 c12 (Nat.le_of_ble_eq_true rfl) (Nat.le_of_ble_eq_true rfl) rfl (Nat.le_of_ble_eq_true rfl) (Nat.le_of_ble_eq_true rfl) (Nat.le_of_ble_eq_true rfl) dX4_smoke_51 rfl (fun v h11 hq => ?_)
      obtain ⟨r10, rfl, hw⟩ := hq
      refine G.cse (cs' := (0, 0)) rfl ?_
      show GZ _ _ _ _ _ _ _ 54 _ (.int r10 :: [.int l5]) _ _
      refine G_iadd dX4_smoke_54 ?_
      refine G.topi fun v13 ev13 => ?_
      have hw := wp_bd hw v13 ev13
      refine G_istore (lv' := [some (.ref l0), some (.ref l1), some (.int l2), some (.int l3), some (.int l4), some (.int v13), some (.int l6)]) dX4_smoke_55 (Nat.le_of_ble_eq_true rfl) rfl ?_
      refine G.less [some (.ref l0), some (.ref l1), some (.int l2), some (.int l3), some (.int l4), some (.int v13), some (.int l6)] ⟨rfl, ⟨rfl, ⟨rfl, ⟨rfl, ⟨rfl, ⟨rfl, ⟨rfl, trivial⟩⟩⟩⟩⟩⟩⟩ ?_
      exact f_X4_smoke_57_ok hs hK_16 _ _ _ _ _ _ _ h11 Q hw
theorem f_X4_smoke_16_ok {Γ : GX} (hs : SF Γ) {N : Nat} : ∀ (n : Nat) (l0 : Nat) (l1 : Nat) (l2 : Int32) (l3 : Int32) (l4 : Int32) (l5 : Int32) (l6 : Int32) (h : PH) (Q : Int32 → PH → Prop), wp (f_X4_smoke_16 N n l0 l1 l2 l3 l4 l5 l6 h) Q → G Γ yX4_smoke cX4_smoke 7 (some .int) (4, 0, 0) 16 [some (.ref l0), some (.ref l1), some (.int l2), some (.int l3), some (.int l4), some (.int l5), some (.int l6)] [] h (0, 0) (q_i Q)
  | 0, _, _, _, _, _, _, _, _, Q, hw => (wp_no hw).elim
  | n + 1, l0, l1, l2, l3, l4, l5, l6, h, Q, hw => f_X4_smoke_16_bok (N := N) hs (f_X4_smoke_16_ok (N := N) hs n) l0 l1 l2 l3 l4 l5 l6 h Q hw
set_option maxHeartbeats 4000000 in
set_option maxRecDepth 100000 in
theorem s_X4_smoke {Γ : GX} (hs : SF Γ) {N : Nat} (l0 : Nat) (l1 : Nat) (l2 : Int32) (l3 : Int32) (h : PH) (Q : Int32 → PH → Prop) (hw : wp (f_X4_smoke N l0 l1 l2 l3 h) Q) : Spec Γ yX4_smoke cX4_smoke 7 (some .int) (4, 0, 0) [.ref l0, .ref l1, .int l2, .int l3] h (q_i Q) := by
  refine Spec.of (by decide) (Nat.le_of_ble_eq_true rfl) [some (.ref l0), some (.ref l1), some (.int l2), some (.int l3), none, none, none] rfl ?_
  unfold f_X4_smoke at hw
  refine G_aload_n dX4_smoke_0 rfl ?_
  refine G_aload_n dX4_smoke_1 rfl ?_
  obtain ⟨c1, hw⟩ := wp_ck hw
  refine G_getI fl_X4_hour w_216 dX4_smoke_2 c1 ?_
  obtain ⟨c4, hw⟩ := wp_ck hw
  refine G_callV (As := [.int (hI h l0 0)]) (s_X6_windAt hs l1 (hI h l0 0) h _ (wp_cl hw)) ca_X6_windAt w_975 w_976 (ci := 6) rfl (by decide) w_974 c4 (Nat.le_of_ble_eq_true rfl) (Nat.le_of_ble_eq_true rfl) rfl (Nat.le_of_ble_eq_true rfl) (Nat.le_of_ble_eq_true rfl) (Nat.le_of_ble_eq_true rfl) dX4_smoke_5 rfl (fun v h3 hq => ?_)
  obtain ⟨r2, rfl, hw⟩ := hq
  refine G.cse (cs' := (0, 0)) rfl ?_
  show GZ _ _ _ _ _ _ _ 8 _ (.int r2 :: []) _ _
  refine G_istore (lv' := [some (.ref l0), some (.ref l1), some (.int l2), some (.int l3), some (.int r2), none, none]) dX4_smoke_8 (Nat.le_of_ble_eq_true rfl) rfl ?_
  refine G_iconst (v := (0 : Int32)) dX4_smoke_10 (by decide) ?_
  refine G_istore (lv' := [some (.ref l0), some (.ref l1), some (.int l2), some (.int l3), some (.int r2), some (.int (0 : Int32)), none]) dX4_smoke_11 (Nat.le_of_ble_eq_true rfl) rfl ?_
  refine G_iconst (v := (0 : Int32)) dX4_smoke_13 (by decide) ?_
  refine G_istore (lv' := [some (.ref l0), some (.ref l1), some (.int l2), some (.int l3), some (.int r2), some (.int (0 : Int32)), some (.int (0 : Int32))]) dX4_smoke_14 (Nat.le_of_ble_eq_true rfl) rfl ?_
  refine G.less [some (.ref l0), some (.ref l1), some (.int l2), some (.int l3), some (.int r2), some (.int (0 : Int32)), some (.int (0 : Int32))] ⟨rfl, ⟨rfl, ⟨rfl, ⟨rfl, ⟨rfl, ⟨rfl, ⟨rfl, trivial⟩⟩⟩⟩⟩⟩⟩ ?_
  exact f_X4_smoke_16_ok hs N _ _ _ _ _ _ _ h3 Q hw
set_option maxHeartbeats 4000000 in
set_option maxRecDepth 100000 in
theorem s_X6_fits {Γ : GX} (hs : SF Γ) {N : Nat} (l0 : Nat) (l1 : Int32) (l2 : Int32) (l3 : Int32) (h : PH) (Q : Int32 → PH → Prop) (hw : wp (f_X6_fits N l0 l1 l2 l3 h) Q) : Spec Γ yX6_fits cX6_fits 5 (some .boolean) (1, 0, 0) [.ref l0, .int l1, .int l2, .int l3] h (q_i Q) := by
  refine Spec.of (by decide) (Nat.le_of_ble_eq_true rfl) [some (.ref l0), some (.int l1), some (.int l2), some (.int l3), none] rfl ?_
  unfold f_X6_fits at hw
  refine G_iload_n dX6_fits_0 rfl ?_
  refine G_iconst (v := (4 : Int32)) dX6_fits_1 (by decide) ?_
  refine G_imul dX6_fits_2 ?_
  refine G_iload_n dX6_fits_3 rfl ?_
  refine G_iconst (v := (2 : Int32)) dX6_fits_4 (by decide) ?_
  refine G_imul dX6_fits_5 ?_
  refine G_iadd dX6_fits_6 ?_
  refine G.topi fun v1 ev1 => ?_
  have hw := wp_bd hw v1 ev1
  refine G_istore (lv' := [some (.ref l0), some (.int l1), some (.int l2), some (.int l3), some (.int v1)]) dX6_fits_7 (Nat.le_of_ble_eq_true rfl) rfl ?_
  refine G_iload_n dX6_fits_9 rfl ?_
  refine G_aload_n dX6_fits_10 rfl ?_
  obtain ⟨c2, hw⟩ := wp_ck hw
  refine G_getR fl_X6_ranges w_451 dX6_fits_11 c2 ?_
  obtain ⟨a3, ea3, hw⟩ := wp_rq hw
  refine G.sure ea3 ?_
  refine G_iload dX6_fits_14 rfl ?_
  obtain ⟨c4, hw⟩ := wp_ck hw
  obtain ⟨c5, hw⟩ := wp_ck hw
  refine G_iaload dX6_fits_16 c4 c5 ?_
  have hw := wp_if hw
  refine G_icmp_lt (tgt := 37) dX6_fits_17 rfl (fun c6 => ?_) (fun c6 => ?_)
  · have hw := hw.1 c6
    refine G_iconst (v := (0 : Int32)) dX6_fits_37 (by decide) ?_
    exact G_zreturn rfl dX6_fits_38 rfl ⟨_, rfl, wp_ret hw⟩
  · have hw := hw.2 c6
    refine G_iload_n dX6_fits_20 rfl ?_
    refine G_aload_n dX6_fits_21 rfl ?_
    refine G_getR fl_X6_ranges w_451 dX6_fits_22 c2 ?_
    obtain ⟨a7, ea7, hw⟩ := wp_rq hw
    refine G.sure ea7 ?_
    refine G_iload dX6_fits_25 rfl ?_
    refine G_iconst (v := (1 : Int32)) dX6_fits_27 (by decide) ?_
    refine G_iadd dX6_fits_28 ?_
    obtain ⟨c8, hw⟩ := wp_ck hw
    obtain ⟨c9, hw⟩ := wp_ck hw
    refine G_iaload dX6_fits_29 c8 c9 ?_
    have hw := wp_if hw
    refine G_icmp_gt (tgt := 37) dX6_fits_30 rfl (fun c10 => ?_) (fun c10 => ?_)
    · have hw := hw.1 c10
      refine G_iconst (v := (0 : Int32)) dX6_fits_37 (by decide) ?_
      exact G_zreturn rfl dX6_fits_38 rfl ⟨_, rfl, wp_ret hw⟩
    · have hw := hw.2 c10
      refine G_iconst (v := (1 : Int32)) dX6_fits_33 (by decide) ?_
      refine G_goto (tgt := 38) dX6_fits_34 rfl ?_
      exact G_zreturn rfl dX6_fits_38 rfl ⟨_, rfl, wp_ret hw⟩
set_option maxHeartbeats 4000000 in
set_option maxRecDepth 100000 in
theorem f_X6_signOf_57_ok {Γ : GX} (hs : SF Γ) {N : Nat} {K_20 : Nat → Int32 → Int32 → Int32 → PH → Option (Int32 × PH)} (hK_20 : ∀ (l0 : Nat) (l3 : Int32) (l4 : Int32) (l5 : Int32) (h : PH) (Q : Int32 → PH → Prop), wp (K_20 l0 l3 l4 l5 h) Q → G Γ yX6_signOf cX6_signOf 6 (some .int) (2, 0, 0) 20 [some (.ref l0), none, none, some (.int l3), some (.int l4), some (.int l5)] [] h (0, 0) (q_i Q)) (l0 : Nat) (l3 : Int32) (l4 : Int32) (l5 : Int32) (h : PH) (Q : Int32 → PH → Prop) (hw : wp (f_X6_signOf_57 N K_20 l0 l3 l4 l5 h) Q) : G Γ yX6_signOf cX6_signOf 6 (some .int) (2, 0, 0) 57 [some (.ref l0), none, none, some (.int l3), some (.int l4), some (.int l5)] [] h (0, 0) (q_i Q) := by
  unfold f_X6_signOf_57 at hw
  obtain ⟨v1, ev1⟩ : ∃ z : Int32, z = l5 + (1 : Int32) := ⟨_, rfl⟩
  have hw := wp_bd hw v1 ev1
  refine G_iinc (v := v1) (lv' := [some (.ref l0), none, none, some (.int l3), some (.int l4), some (.int v1)]) dX6_signOf_57 rfl (by rw [ev1]; rfl) (Nat.le_of_ble_eq_true rfl) rfl ?_
  refine G_goto (tgt := 20) dX6_signOf_60 rfl ?_
  refine G.less [some (.ref l0), none, none, some (.int l3), some (.int l4), some (.int v1)] ⟨rfl, ⟨rfl, ⟨rfl, ⟨rfl, trivial⟩⟩⟩⟩ ?_
  exact hK_20 _ _ _ _ h Q hw
set_option maxHeartbeats 4000000 in
set_option maxRecDepth 100000 in
theorem f_X6_signOf_20_bok {Γ : GX} (hs : SF Γ) {N : Nat} {K_20 : Nat → Int32 → Int32 → Int32 → PH → Option (Int32 × PH)} (hK_20 : ∀ (l0 : Nat) (l3 : Int32) (l4 : Int32) (l5 : Int32) (h : PH) (Q : Int32 → PH → Prop), wp (K_20 l0 l3 l4 l5 h) Q → G Γ yX6_signOf cX6_signOf 6 (some .int) (2, 0, 0) 20 [some (.ref l0), none, none, some (.int l3), some (.int l4), some (.int l5)] [] h (0, 0) (q_i Q)) (l0 : Nat) (l3 : Int32) (l4 : Int32) (l5 : Int32) (h : PH) (Q : Int32 → PH → Prop) (hw : wp (f_X6_signOf_20_b N K_20 l0 l3 l4 l5 h) Q) : G Γ yX6_signOf cX6_signOf 6 (some .int) (2, 0, 0) 20 [some (.ref l0), none, none, some (.int l3), some (.int l4), some (.int l5)] [] h (0, 0) (q_i Q) := by
  unfold f_X6_signOf_20_b at hw
  refine G_iload dX6_signOf_20 rfl ?_
  refine G_aload_n dX6_signOf_22 rfl ?_
  obtain ⟨c1, hw⟩ := wp_ck hw
  refine G_getR fl_X6_many w_426 dX6_signOf_23 c1 ?_
  obtain ⟨a2, ea2, hw⟩ := wp_rq hw
  refine G.sure ea2 ?_
  refine G_iconst (v := (3 : Int32)) dX6_signOf_26 (by decide) ?_
  obtain ⟨c3, hw⟩ := wp_ck hw
  obtain ⟨c4, hw⟩ := wp_ck hw
  refine G_ialoadK (k := 3) dX6_signOf_27 c3 (by decide) rfl c4 ?_
  have hw := wp_if hw
  refine G_icmp_ge (tgt := 63) dX6_signOf_28 rfl (fun c5 => ?_) (fun c5 => ?_)
  · have hw := hw.1 c5
    refine G_iconst (v := (-1 : Int32)) dX6_signOf_63 (by decide) ?_
    exact G_ireturn rfl dX6_signOf_64 ⟨_, rfl, wp_ret hw⟩
  · have hw := hw.2 c5
    refine G_aload_n dX6_signOf_31 rfl ?_
    refine G_iload dX6_signOf_32 rfl ?_
    refine G_iload_n dX6_signOf_34 rfl ?_
    refine G_iconst (v := (0 : Int32)) dX6_signOf_35 (by decide) ?_
    refine G_callV (As := [.int l5, .int l3, .int (0 : Int32)]) (s_X6_fits hs l0 l5 l3 (0 : Int32) h _ (wp_cl hw)) ca_X6_fits w_1008 w_1009 (ci := 6) rfl (by decide) w_1007 c1 (Nat.le_of_ble_eq_true rfl) (Nat.le_of_ble_eq_true rfl) rfl (Nat.le_of_ble_eq_true rfl) (Nat.le_of_ble_eq_true rfl) (Nat.le_of_ble_eq_true rfl) dX6_signOf_36 rfl (fun v h7 hq => ?_)
    obtain ⟨r6, rfl, hw⟩ := hq
    refine G.cse (cs' := (0, 0)) rfl ?_
    show GZ _ _ _ _ _ _ _ 39 _ (.int r6 :: []) _ _
    have hw := wp_if hw
    refine G_if_eq (tgt := 57) dX6_signOf_39 rfl (fun c8 => ?_) (fun c8 => ?_)
    · have hw := hw.1 c8
      refine G.less [some (.ref l0), none, none, some (.int l3), some (.int l4), some (.int l5)] ⟨rfl, ⟨rfl, ⟨rfl, ⟨rfl, trivial⟩⟩⟩⟩ ?_
      exact f_X6_signOf_57_ok hs hK_20 _ _ _ _ h7 Q hw
    · have hw := hw.2 c8
      refine G_aload_n dX6_signOf_42 rfl ?_
      refine G_iload dX6_signOf_43 rfl ?_
      refine G_iload dX6_signOf_45 rfl ?_
      refine G_iconst (v := (1 : Int32)) dX6_signOf_47 (by decide) ?_
      obtain ⟨c11, hw⟩ := wp_ck hw
      refine G_callV (As := [.int l5, .int l4, .int (1 : Int32)]) (s_X6_fits hs l0 l5 l4 (1 : Int32) h7 _ (wp_cl hw)) ca_X6_fits w_1008 w_1009 (ci := 6) rfl (by decide) w_1007 c11 (Nat.le_of_ble_eq_true rfl) (Nat.le_of_ble_eq_true rfl) rfl (Nat.le_of_ble_eq_true rfl) (Nat.le_of_ble_eq_true rfl) (Nat.le_of_ble_eq_true rfl) dX6_signOf_48 rfl (fun v h10 hq => ?_)
      obtain ⟨r9, rfl, hw⟩ := hq
      refine G.cse (cs' := (0, 0)) rfl ?_
      show GZ _ _ _ _ _ _ _ 51 _ (.int r9 :: []) _ _
      have hw := wp_if hw
      refine G_if_eq (tgt := 57) dX6_signOf_51 rfl (fun c12 => ?_) (fun c12 => ?_)
      · have hw := hw.1 c12
        refine G.less [some (.ref l0), none, none, some (.int l3), some (.int l4), some (.int l5)] ⟨rfl, ⟨rfl, ⟨rfl, ⟨rfl, trivial⟩⟩⟩⟩ ?_
        exact f_X6_signOf_57_ok hs hK_20 _ _ _ _ h10 Q hw
      · have hw := hw.2 c12
        refine G_iload dX6_signOf_54 rfl ?_
        exact G_ireturn rfl dX6_signOf_56 ⟨_, rfl, wp_ret hw⟩
theorem f_X6_signOf_20_ok {Γ : GX} (hs : SF Γ) {N : Nat} : ∀ (n : Nat) (l0 : Nat) (l3 : Int32) (l4 : Int32) (l5 : Int32) (h : PH) (Q : Int32 → PH → Prop), wp (f_X6_signOf_20 N n l0 l3 l4 l5 h) Q → G Γ yX6_signOf cX6_signOf 6 (some .int) (2, 0, 0) 20 [some (.ref l0), none, none, some (.int l3), some (.int l4), some (.int l5)] [] h (0, 0) (q_i Q)
  | 0, _, _, _, _, _, Q, hw => (wp_no hw).elim
  | n + 1, l0, l3, l4, l5, h, Q, hw => f_X6_signOf_20_bok (N := N) hs (f_X6_signOf_20_ok (N := N) hs n) l0 l3 l4 l5 h Q hw
set_option maxHeartbeats 4000000 in
set_option maxRecDepth 100000 in
theorem s_X6_signOf {Γ : GX} (hs : SF Γ) {N : Nat} (l0 : Nat) (l1 : Int32) (l2 : Int32) (h : PH) (Q : Int32 → PH → Prop) (hw : wp (f_X6_signOf N l0 l1 l2 h) Q) : Spec Γ yX6_signOf cX6_signOf 6 (some .int) (2, 0, 0) [.ref l0, .int l1, .int l2] h (q_i Q) := by
  refine Spec.of (by decide) (Nat.le_of_ble_eq_true rfl) [some (.ref l0), some (.int l1), some (.int l2), none, none, none] rfl ?_
  unfold f_X6_signOf at hw
  refine G_iload_n dX6_signOf_0 rfl ?_
  refine G_sipush (v := (999 : Int32)) dX6_signOf_1 (by decide) ?_
  refine G_mmin w_1006 w_642 w_139 w_643 dX6_signOf_4 (Nat.le_of_ble_eq_true rfl) (Nat.le_of_ble_eq_true rfl) (Nat.le_of_ble_eq_true rfl) (Nat.le_of_ble_eq_true rfl) ?_
  refine G.topi fun v1 ev1 => ?_
  have hw := wp_bd hw v1 ev1
  refine G_istore_n (lv' := [some (.ref l0), some (.int l1), some (.int l2), some (.int v1), none, none]) dX6_signOf_7 (Nat.le_of_ble_eq_true rfl) rfl ?_
  refine G_iload_n dX6_signOf_8 rfl ?_
  refine G_sipush (v := (999 : Int32)) dX6_signOf_9 (by decide) ?_
  refine G_mmin w_1006 w_642 w_139 w_643 dX6_signOf_12 (Nat.le_of_ble_eq_true rfl) (Nat.le_of_ble_eq_true rfl) (Nat.le_of_ble_eq_true rfl) (Nat.le_of_ble_eq_true rfl) ?_
  refine G.topi fun v2 ev2 => ?_
  have hw := wp_bd hw v2 ev2
  refine G_istore (lv' := [some (.ref l0), some (.int l1), some (.int l2), some (.int v1), some (.int v2), none]) dX6_signOf_15 (Nat.le_of_ble_eq_true rfl) rfl ?_
  refine G_iconst (v := (0 : Int32)) dX6_signOf_17 (by decide) ?_
  refine G_istore (lv' := [some (.ref l0), some (.int l1), some (.int l2), some (.int v1), some (.int v2), some (.int (0 : Int32))]) dX6_signOf_18 (Nat.le_of_ble_eq_true rfl) rfl ?_
  refine G.less [some (.ref l0), none, none, some (.int v1), some (.int v2), some (.int (0 : Int32))] ⟨rfl, ⟨rfl, ⟨rfl, ⟨rfl, trivial⟩⟩⟩⟩ ?_
  exact f_X6_signOf_20_ok hs N _ _ _ _ h Q hw
set_option maxHeartbeats 4000000 in
set_option maxRecDepth 100000 in
theorem s_X4_signAt {Γ : GX} (hs : SF Γ) {N : Nat} (l0 : Nat) (l1 : Nat) (l2 : Int32) (h : PH) (Q : Int32 → PH → Prop) (hw : wp (f_X4_signAt N l0 l1 l2 h) Q) : Spec Γ yX4_signAt cX4_signAt 4 (some .int) (5, 0, 0) [.ref l0, .ref l1, .int l2] h (q_i Q) := by
  refine Spec.of (by decide) (Nat.le_of_ble_eq_true rfl) [some (.ref l0), some (.ref l1), some (.int l2), none] rfl ?_
  unfold f_X4_signAt at hw
  refine G_aload_n dX4_signAt_0 rfl ?_
  refine G_iload_n dX4_signAt_1 rfl ?_
  obtain ⟨c3, hw⟩ := wp_ck hw
  refine G_callV (As := [.int l2]) (s_X6_housesAt hs l1 l2 h _ (wp_cl hw)) ca_X6_housesAt w_967 w_968 (ci := 6) rfl (by decide) w_1000 c3 (Nat.le_of_ble_eq_true rfl) (Nat.le_of_ble_eq_true rfl) rfl (Nat.le_of_ble_eq_true rfl) (Nat.le_of_ble_eq_true rfl) (Nat.le_of_ble_eq_true rfl) dX4_signAt_2 rfl (fun v h2 hq => ?_)
  obtain ⟨r1, rfl, hw⟩ := hq
  refine G.cse (cs' := (0, 0)) rfl ?_
  show GZ _ _ _ _ _ _ _ 5 _ (.int r1 :: []) _ _
  refine G_istore_n (lv' := [some (.ref l0), some (.ref l1), some (.int l2), some (.int r1)]) dX4_signAt_5 (Nat.le_of_ble_eq_true rfl) rfl ?_
  refine G_aload_n dX4_signAt_6 rfl ?_
  refine G_aload_n dX4_signAt_7 rfl ?_
  refine G_aload_n dX4_signAt_8 rfl ?_
  refine G_iload_n dX4_signAt_9 rfl ?_
  refine G_iconst (v := (0 : Int32)) dX4_signAt_10 (by decide) ?_
  obtain ⟨c6, hw⟩ := wp_ck hw
  refine G_callV (As := [.ref l1, .int r1, .int (0 : Int32)]) (s_X4_smoke hs l0 l1 r1 (0 : Int32) h2 _ (wp_cl hw)) ca_X4_smoke w_971 w_972 (ci := 4) rfl (by decide) w_1001 c6 (Nat.le_of_ble_eq_true rfl) (Nat.le_of_ble_eq_true rfl) rfl (Nat.le_of_ble_eq_true rfl) (Nat.le_of_ble_eq_true rfl) (Nat.le_of_ble_eq_true rfl) dX4_signAt_11 rfl (fun v h5 hq => ?_)
  obtain ⟨r4, rfl, hw⟩ := hq
  refine G.cse (cs' := (0, 0)) rfl ?_
  show GZ _ _ _ _ _ _ _ 14 _ (.int r4 :: [.ref l1]) _ _
  refine G_aload_n dX4_signAt_14 rfl ?_
  refine G_aload_n dX4_signAt_15 rfl ?_
  refine G_iload_n dX4_signAt_16 rfl ?_
  refine G_iconst (v := (1 : Int32)) dX4_signAt_17 (by decide) ?_
  obtain ⟨c9, hw⟩ := wp_ck hw
  refine G_callV (As := [.ref l1, .int r1, .int (1 : Int32)]) (s_X4_smoke hs l0 l1 r1 (1 : Int32) h5 _ (wp_cl hw)) ca_X4_smoke w_971 w_972 (ci := 4) rfl (by decide) w_1001 c9 (Nat.le_of_ble_eq_true rfl) (Nat.le_of_ble_eq_true rfl) rfl (Nat.le_of_ble_eq_true rfl) (Nat.le_of_ble_eq_true rfl) (Nat.le_of_ble_eq_true rfl) dX4_signAt_18 rfl (fun v h8 hq => ?_)
  obtain ⟨r7, rfl, hw⟩ := hq
  refine G.cse (cs' := (0, 0)) rfl ?_
  show GZ _ _ _ _ _ _ _ 21 _ (.int r7 :: [.int r4, .ref l1]) _ _
  obtain ⟨c12, hw⟩ := wp_ck hw
  refine G_callV (As := [.int r4, .int r7]) (s_X6_signOf hs l1 r4 r7 h8 _ (wp_cl hw)) ca_X6_signOf w_1003 w_1004 (ci := 6) rfl (by decide) w_1002 c12 (Nat.le_of_ble_eq_true rfl) (Nat.le_of_ble_eq_true rfl) rfl (Nat.le_of_ble_eq_true rfl) (Nat.le_of_ble_eq_true rfl) (Nat.le_of_ble_eq_true rfl) dX4_signAt_21 rfl (fun v h11 hq => ?_)
  obtain ⟨r10, rfl, hw⟩ := hq
  refine G.cse (cs' := (0, 0)) rfl ?_
  show GZ _ _ _ _ _ _ _ 24 _ (.int r10 :: []) _ _
  exact G_ireturn rfl dX4_signAt_24 ⟨_, rfl, wp_ret hw⟩
set_option maxHeartbeats 4000000 in
set_option maxRecDepth 100000 in
theorem s_X10_flue {Γ : GX} (hs : SF Γ) {N : Nat} (l0 : Nat) (l1 : Int32) (l2 : Int32) (h : PH) (Q : Int32 → PH → Prop) (hw : wp (f_X10_flue N l0 l1 l2 h) Q) : Spec Γ yX10_flue cX10_flue 4 (some .int) (6, 0, 0) [.ref l0, .int l1, .int l2] h (q_i Q) := by
  refine Spec.of (by decide) (Nat.le_of_ble_eq_true rfl) [some (.ref l0), some (.int l1), some (.int l2), none] rfl ?_
  unfold f_X10_flue at hw
  refine G_aload_n dX10_flue_0 rfl ?_
  obtain ⟨c1, hw⟩ := wp_ck hw
  refine G_getR fl_X10_valley w_507 dX10_flue_1 c1 ?_
  obtain ⟨a2, ea2, hw⟩ := wp_rq hw
  refine G.sure ea2 ?_
  refine G_iconst (v := (1 : Int32)) dX10_flue_4 (by decide) ?_
  refine G_iload_n dX10_flue_5 rfl ?_
  obtain ⟨c5, hw⟩ := wp_ck hw
  refine G_callV (As := [.int (1 : Int32), .int l1]) (s_X6_has hs a2 (1 : Int32) l1 h _ (wp_cl hw)) ca_X6_has w_955 w_956 (ci := 6) rfl (by decide) w_954 c5 (Nat.le_of_ble_eq_true rfl) (Nat.le_of_ble_eq_true rfl) rfl (Nat.le_of_ble_eq_true rfl) (Nat.le_of_ble_eq_true rfl) (Nat.le_of_ble_eq_true rfl) dX10_flue_6 rfl (fun v h4 hq => ?_)
  obtain ⟨r3, rfl, hw⟩ := hq
  refine G.cse (cs' := (0, 0)) rfl ?_
  show GZ _ _ _ _ _ _ _ 9 _ (.int r3 :: []) _ _
  have hw := wp_if hw
  refine G_if_ne (tgt := 15) dX10_flue_9 rfl (fun c6 => ?_) (fun c6 => ?_)
  · have hw := hw.2 c6
    refine G_aload_n dX10_flue_15 rfl ?_
    obtain ⟨c7, hw⟩ := wp_ck hw
    refine G_getR fl_X10_valley w_507 dX10_flue_16 c7 ?_
    obtain ⟨a8, ea8, hw⟩ := wp_rq hw
    refine G.sure ea8 ?_
    refine G_iload_n dX10_flue_19 rfl ?_
    obtain ⟨c11, hw⟩ := wp_ck hw
    refine G_callV (As := [.int l1]) (s_X6_housesAt hs a8 l1 h4 _ (wp_cl hw)) ca_X6_housesAt w_967 w_968 (ci := 6) rfl (by decide) w_966 c11 (Nat.le_of_ble_eq_true rfl) (Nat.le_of_ble_eq_true rfl) rfl (Nat.le_of_ble_eq_true rfl) (Nat.le_of_ble_eq_true rfl) (Nat.le_of_ble_eq_true rfl) dX10_flue_20 rfl (fun v h10 hq => ?_)
    obtain ⟨r9, rfl, hw⟩ := hq
    refine G.cse (cs' := (0, 0)) rfl ?_
    show GZ _ _ _ _ _ _ _ 23 _ (.int r9 :: []) _ _
    refine G_istore_n (lv' := [some (.ref l0), some (.int l1), some (.int l2), some (.int r9)]) dX10_flue_23 (Nat.le_of_ble_eq_true rfl) rfl ?_
    refine G_iload_n dX10_flue_24 rfl ?_
    have hw := wp_if hw
    by_cases n0 : l2 = 0
    · have hw := hw.1 n0
      refine G_tableIn (off := 35) (tgt := 60) dX10_flue_25 (by rw [n0]; decide) (by rw [n0]; decide) (by rw [n0]; rfl) rfl ?_
      refine G_aload_n dX10_flue_60 rfl ?_
      obtain ⟨c12, hw⟩ := wp_ck hw
      refine G_getR fl_X10_now w_498 dX10_flue_61 c12 ?_
      obtain ⟨a13, ea13, hw⟩ := wp_rq hw
      refine G.sure ea13 ?_
      obtain ⟨c14, hw⟩ := wp_ck hw
      refine G_getNR fl_X2_state w_257 dX10_flue_64 c14 ?_
      obtain ⟨a15, ea15, hw⟩ := wp_rq hw
      refine G.sure ea15 ?_
      refine G_aload_n dX10_flue_67 rfl ?_
      refine G_getR fl_X10_valley w_507 dX10_flue_68 c12 ?_
      obtain ⟨a16, ea16, hw⟩ := wp_rq hw
      refine G.sure ea16 ?_
      refine G_iload_n dX10_flue_71 rfl ?_
      refine G_iconst (v := (0 : Int32)) dX10_flue_72 (by decide) ?_
      obtain ⟨c19, hw⟩ := wp_ck hw
      refine G_callV (As := [.ref a16, .int r9, .int (0 : Int32)]) (s_X4_smoke hs a15 a16 r9 (0 : Int32) h10 _ (wp_cl hw)) ca_X4_smoke w_971 w_972 (ci := 4) rfl (by decide) w_970 c19 (Nat.le_of_ble_eq_true rfl) (Nat.le_of_ble_eq_true rfl) rfl (Nat.le_of_ble_eq_true rfl) (Nat.le_of_ble_eq_true rfl) (Nat.le_of_ble_eq_true rfl) dX10_flue_73 rfl (fun v h18 hq => ?_)
      obtain ⟨r17, rfl, hw⟩ := hq
      refine G.cse (cs' := (0, 0)) rfl ?_
      show GZ _ _ _ _ _ _ _ 76 _ (.int r17 :: []) _ _
      exact G_ireturn rfl dX10_flue_76 ⟨_, rfl, wp_ret hw⟩
    have hw := hw.2 n0
    have hw := wp_if hw
    by_cases n1 : l2 = 1
    · have hw := hw.1 n1
      refine G_tableIn (off := 52) (tgt := 77) dX10_flue_25 (by rw [n1]; decide) (by rw [n1]; decide) (by rw [n1]; rfl) rfl ?_
      refine G_aload_n dX10_flue_77 rfl ?_
      obtain ⟨c20, hw⟩ := wp_ck hw
      refine G_getR fl_X10_now w_498 dX10_flue_78 c20 ?_
      obtain ⟨a21, ea21, hw⟩ := wp_rq hw
      refine G.sure ea21 ?_
      obtain ⟨c22, hw⟩ := wp_ck hw
      refine G_getNR fl_X2_state w_257 dX10_flue_81 c22 ?_
      obtain ⟨a23, ea23, hw⟩ := wp_rq hw
      refine G.sure ea23 ?_
      refine G_aload_n dX10_flue_84 rfl ?_
      refine G_getR fl_X10_valley w_507 dX10_flue_85 c20 ?_
      obtain ⟨a24, ea24, hw⟩ := wp_rq hw
      refine G.sure ea24 ?_
      refine G_iload_n dX10_flue_88 rfl ?_
      refine G_iconst (v := (1 : Int32)) dX10_flue_89 (by decide) ?_
      obtain ⟨c27, hw⟩ := wp_ck hw
      refine G_callV (As := [.ref a24, .int r9, .int (1 : Int32)]) (s_X4_smoke hs a23 a24 r9 (1 : Int32) h10 _ (wp_cl hw)) ca_X4_smoke w_971 w_972 (ci := 4) rfl (by decide) w_970 c27 (Nat.le_of_ble_eq_true rfl) (Nat.le_of_ble_eq_true rfl) rfl (Nat.le_of_ble_eq_true rfl) (Nat.le_of_ble_eq_true rfl) (Nat.le_of_ble_eq_true rfl) dX10_flue_90 rfl (fun v h26 hq => ?_)
      obtain ⟨r25, rfl, hw⟩ := hq
      refine G.cse (cs' := (0, 0)) rfl ?_
      show GZ _ _ _ _ _ _ _ 93 _ (.int r25 :: []) _ _
      exact G_ireturn rfl dX10_flue_93 ⟨_, rfl, wp_ret hw⟩
    have hw := hw.2 n1
    have hw := wp_if hw
    by_cases n2 : l2 = 2
    · have hw := hw.1 n2
      refine G_tableIn (off := 69) (tgt := 94) dX10_flue_25 (by rw [n2]; decide) (by rw [n2]; decide) (by rw [n2]; rfl) rfl ?_
      refine G_aload_n dX10_flue_94 rfl ?_
      obtain ⟨c28, hw⟩ := wp_ck hw
      refine G_getR fl_X10_now w_498 dX10_flue_95 c28 ?_
      obtain ⟨a29, ea29, hw⟩ := wp_rq hw
      refine G.sure ea29 ?_
      obtain ⟨c30, hw⟩ := wp_ck hw
      refine G_getNR fl_X2_state w_257 dX10_flue_98 c30 ?_
      obtain ⟨a31, ea31, hw⟩ := wp_rq hw
      refine G.sure ea31 ?_
      refine G_aload_n dX10_flue_101 rfl ?_
      refine G_getR fl_X10_valley w_507 dX10_flue_102 c28 ?_
      obtain ⟨a32, ea32, hw⟩ := wp_rq hw
      refine G.sure ea32 ?_
      refine G_iload_n dX10_flue_105 rfl ?_
      obtain ⟨c35, hw⟩ := wp_ck hw
      refine G_callV (As := [.ref a32, .int l1]) (s_X4_signAt hs a31 a32 l1 h10 _ (wp_cl hw)) ca_X4_signAt w_997 w_998 (ci := 4) rfl (by decide) w_996 c35 (Nat.le_of_ble_eq_true rfl) (Nat.le_of_ble_eq_true rfl) rfl (Nat.le_of_ble_eq_true rfl) (Nat.le_of_ble_eq_true rfl) (Nat.le_of_ble_eq_true rfl) dX10_flue_106 rfl (fun v h34 hq => ?_)
      obtain ⟨r33, rfl, hw⟩ := hq
      refine G.cse (cs' := (0, 0)) rfl ?_
      show GZ _ _ _ _ _ _ _ 109 _ (.int r33 :: []) _ _
      exact G_ireturn rfl dX10_flue_109 ⟨_, rfl, wp_ret hw⟩
    have hw := hw.2 n2
    have hw := wp_if hw
    by_cases n3 : l2 = 3
    · have hw := hw.1 n3
      refine G_tableIn (off := 85) (tgt := 110) dX10_flue_25 (by rw [n3]; decide) (by rw [n3]; decide) (by rw [n3]; rfl) rfl ?_
      refine G_aload_n dX10_flue_110 rfl ?_
      obtain ⟨c36, hw⟩ := wp_ck hw
      refine G_getR fl_X10_now w_498 dX10_flue_111 c36 ?_
      obtain ⟨a37, ea37, hw⟩ := wp_rq hw
      refine G.sure ea37 ?_
      obtain ⟨c38, hw⟩ := wp_ck hw
      refine G_getNR fl_X2_state w_257 dX10_flue_114 c38 ?_
      obtain ⟨a39, ea39, hw⟩ := wp_rq hw
      refine G.sure ea39 ?_
      obtain ⟨c40, hw⟩ := wp_ck hw
      refine G_getNR fl_X4_soot w_228 dX10_flue_117 c40 ?_
      obtain ⟨a41, ea41, hw⟩ := wp_rq hw
      refine G.sure ea41 ?_
      refine G_iload_n dX10_flue_120 rfl ?_
      obtain ⟨c42, hw⟩ := wp_ck hw
      obtain ⟨c43, hw⟩ := wp_ck hw
      refine G_iaload dX10_flue_121 c42 c43 ?_
      exact G_ireturn rfl dX10_flue_122 ⟨_, rfl, wp_ret hw⟩
    have hw := hw.2 n3
    have hw := wp_if hw
    by_cases n4 : l2 = 4
    · have hw := hw.1 n4
      refine G_tableIn (off := 98) (tgt := 123) dX10_flue_25 (by rw [n4]; decide) (by rw [n4]; decide) (by rw [n4]; rfl) rfl ?_
      refine G_iload_n dX10_flue_123 rfl ?_
      exact G_ireturn rfl dX10_flue_124 ⟨_, rfl, wp_ret hw⟩
    have hw := hw.2 n4
    refine G_tableOut (tgt := 125) dX10_flue_25 ?_ rfl ?_
    · rcases Int.lt_or_le l2.toInt (0) with q | q
      · exact Or.inl q
      · refine Or.inr ?_
        have m0 : l2.toInt ≠ 0 := fun q => n0 (Int32.toInt_inj.mp (by rw [q]; rfl))
        have m1 : l2.toInt ≠ 1 := fun q => n1 (Int32.toInt_inj.mp (by rw [q]; rfl))
        have m2 : l2.toInt ≠ 2 := fun q => n2 (Int32.toInt_inj.mp (by rw [q]; rfl))
        have m3 : l2.toInt ≠ 3 := fun q => n3 (Int32.toInt_inj.mp (by rw [q]; rfl))
        have m4 : l2.toInt ≠ 4 := fun q => n4 (Int32.toInt_inj.mp (by rw [q]; rfl))
        omega
    refine G_bipush (v := (-2 : Int32)) dX10_flue_125 (by decide) ?_
    exact G_ireturn rfl dX10_flue_127 ⟨_, rfl, wp_ret hw⟩
  · have hw := hw.1 c6
    refine G_bipush (v := (-2 : Int32)) dX10_flue_12 (by decide) ?_
    exact G_ireturn rfl dX10_flue_14 ⟨_, rfl, wp_ret hw⟩
set_option maxHeartbeats 4000000 in
set_option maxRecDepth 100000 in
theorem s_X4_burns {Γ : GX} (hs : SF Γ) {N : Nat} (l0 : Nat) (l1 : Int32) (h : PH) (Q : Int32 → PH → Prop) (hw : wp (f_X4_burns N l0 l1 h) Q) : Spec Γ yX4_burns cX4_burns 2 (some .boolean) (1, 0, 0) [.ref l0, .int l1] h (q_i Q) := by
  refine Spec.of (by decide) (Nat.le_of_ble_eq_true rfl) [some (.ref l0), some (.int l1)] rfl ?_
  unfold f_X4_burns at hw
  refine G_iload_n dX4_burns_0 rfl ?_
  have hw := wp_if hw
  refine G_if_lt (tgt := 22) dX4_burns_1 rfl (fun c1 => ?_) (fun c1 => ?_)
  · have hw := hw.1 c1
    refine G_iconst (v := (0 : Int32)) dX4_burns_22 (by decide) ?_
    exact G_zreturn rfl dX4_burns_23 rfl ⟨_, rfl, wp_ret hw⟩
  · have hw := hw.2 c1
    refine G_iload_n dX4_burns_4 rfl ?_
    refine G_iconst (v := (4 : Int32)) dX4_burns_5 (by decide) ?_
    have hw := wp_if hw
    refine G_icmp_ge (tgt := 22) dX4_burns_6 rfl (fun c2 => ?_) (fun c2 => ?_)
    · have hw := hw.1 c2
      refine G_iconst (v := (0 : Int32)) dX4_burns_22 (by decide) ?_
      exact G_zreturn rfl dX4_burns_23 rfl ⟨_, rfl, wp_ret hw⟩
    · have hw := hw.2 c2
      refine G_aload_n dX4_burns_9 rfl ?_
      obtain ⟨c3, hw⟩ := wp_ck hw
      refine G_getR fl_X4_left w_224 dX4_burns_10 c3 ?_
      obtain ⟨a4, ea4, hw⟩ := wp_rq hw
      refine G.sure ea4 ?_
      refine G_iload_n dX4_burns_13 rfl ?_
      obtain ⟨c5, hw⟩ := wp_ck hw
      obtain ⟨c6, hw⟩ := wp_ck hw
      refine G_iaload dX4_burns_14 c5 c6 ?_
      have hw := wp_if hw
      refine G_if_le (tgt := 22) dX4_burns_15 rfl (fun c7 => ?_) (fun c7 => ?_)
      · have hw := hw.1 c7
        refine G_iconst (v := (0 : Int32)) dX4_burns_22 (by decide) ?_
        exact G_zreturn rfl dX4_burns_23 rfl ⟨_, rfl, wp_ret hw⟩
      · have hw := hw.2 c7
        refine G_iconst (v := (1 : Int32)) dX4_burns_18 (by decide) ?_
        refine G_goto (tgt := 23) dX4_burns_19 rfl ?_
        exact G_zreturn rfl dX4_burns_23 rfl ⟨_, rfl, wp_ret hw⟩
set_option maxHeartbeats 4000000 in
set_option maxRecDepth 100000 in
theorem s_X4_canLight {Γ : GX} (hs : SF Γ) {N : Nat} (l0 : Nat) (l1 : Int32) (l2 : Int32) (h : PH) (Q : Int32 → PH → Prop) (hw : wp (f_X4_canLight N l0 l1 l2 h) Q) : Spec Γ yX4_canLight cX4_canLight 3 (some .boolean) (2, 0, 0) [.ref l0, .int l1, .int l2] h (q_i Q) := by
  refine Spec.of (by decide) (Nat.le_of_ble_eq_true rfl) [some (.ref l0), some (.int l1), some (.int l2)] rfl ?_
  unfold f_X4_canLight at hw
  refine G_aload_n dX4_canLight_0 rfl ?_
  refine G_iload_n dX4_canLight_1 rfl ?_
  obtain ⟨c3, hw⟩ := wp_ck hw
  refine G_callV (As := [.int l1]) (s_X4_burns hs l0 l1 h _ (wp_cl hw)) ca_X4_burns w_1024 w_1025 (ci := 4) rfl (by decide) w_1023 c3 (Nat.le_of_ble_eq_true rfl) (Nat.le_of_ble_eq_true rfl) rfl (Nat.le_of_ble_eq_true rfl) (Nat.le_of_ble_eq_true rfl) (Nat.le_of_ble_eq_true rfl) dX4_canLight_2 rfl (fun v h2 hq => ?_)
  obtain ⟨r1, rfl, hw⟩ := hq
  refine G.cse (cs' := (0, 0)) rfl ?_
  show GZ _ _ _ _ _ _ _ 5 _ (.int r1 :: []) _ _
  have hw := wp_if hw
  refine G_if_ne (tgt := 21) dX4_canLight_5 rfl (fun c4 => ?_) (fun c4 => ?_)
  · have hw := hw.2 c4
    refine G_iconst (v := (0 : Int32)) dX4_canLight_21 (by decide) ?_
    exact G_zreturn rfl dX4_canLight_22 rfl ⟨_, rfl, wp_ret hw⟩
  · have hw := hw.1 c4
    refine G_aload_n dX4_canLight_8 rfl ?_
    refine G_iload_n dX4_canLight_9 rfl ?_
    refine G_iload_n dX4_canLight_10 rfl ?_
    obtain ⟨c7, hw⟩ := wp_ck hw
    refine G_callV (As := [.int l1, .int l2]) (s_X4_stockOf hs l0 l1 l2 h2 _ (wp_cl hw)) ca_X4_stockOf w_959 w_960 (ci := 4) rfl (by decide) w_1027 c7 (Nat.le_of_ble_eq_true rfl) (Nat.le_of_ble_eq_true rfl) rfl (Nat.le_of_ble_eq_true rfl) (Nat.le_of_ble_eq_true rfl) (Nat.le_of_ble_eq_true rfl) dX4_canLight_11 rfl (fun v h6 hq => ?_)
    obtain ⟨r5, rfl, hw⟩ := hq
    refine G.cse (cs' := (0, 0)) rfl ?_
    show GZ _ _ _ _ _ _ _ 14 _ (.int r5 :: []) _ _
    have hw := wp_if hw
    refine G_if_le (tgt := 21) dX4_canLight_14 rfl (fun c8 => ?_) (fun c8 => ?_)
    · have hw := hw.1 c8
      refine G_iconst (v := (0 : Int32)) dX4_canLight_21 (by decide) ?_
      exact G_zreturn rfl dX4_canLight_22 rfl ⟨_, rfl, wp_ret hw⟩
    · have hw := hw.2 c8
      refine G_iconst (v := (1 : Int32)) dX4_canLight_17 (by decide) ?_
      refine G_goto (tgt := 22) dX4_canLight_18 rfl ?_
      exact G_zreturn rfl dX4_canLight_22 rfl ⟨_, rfl, wp_ret hw⟩
set_option maxHeartbeats 4000000 in
set_option maxRecDepth 100000 in
theorem s_X10_canBurn {Γ : GX} (hs : SF Γ) {N : Nat} (l0 : Nat) (l1 : Int32) (l2 : Int32) (h : PH) (Q : Int32 → PH → Prop) (hw : wp (f_X10_canBurn N l0 l1 l2 h) Q) : Spec Γ yX10_canBurn cX10_canBurn 3 (some .boolean) (3, 0, 0) [.ref l0, .int l1, .int l2] h (q_i Q) := by
  refine Spec.of (by decide) (Nat.le_of_ble_eq_true rfl) [some (.ref l0), some (.int l1), some (.int l2)] rfl ?_
  unfold f_X10_canBurn at hw
  refine G_aload_n dX10_canBurn_0 rfl ?_
  obtain ⟨c1, hw⟩ := wp_ck hw
  refine G_getR fl_X10_valley w_507 dX10_canBurn_1 c1 ?_
  obtain ⟨a2, ea2, hw⟩ := wp_rq hw
  refine G.sure ea2 ?_
  refine G_iconst (v := (2 : Int32)) dX10_canBurn_4 (by decide) ?_
  refine G_iload_n dX10_canBurn_5 rfl ?_
  obtain ⟨c5, hw⟩ := wp_ck hw
  refine G_callV (As := [.int (2 : Int32), .int l1]) (s_X6_has hs a2 (2 : Int32) l1 h _ (wp_cl hw)) ca_X6_has w_955 w_956 (ci := 6) rfl (by decide) w_954 c5 (Nat.le_of_ble_eq_true rfl) (Nat.le_of_ble_eq_true rfl) rfl (Nat.le_of_ble_eq_true rfl) (Nat.le_of_ble_eq_true rfl) (Nat.le_of_ble_eq_true rfl) dX10_canBurn_6 rfl (fun v h4 hq => ?_)
  obtain ⟨r3, rfl, hw⟩ := hq
  refine G.cse (cs' := (0, 0)) rfl ?_
  show GZ _ _ _ _ _ _ _ 9 _ (.int r3 :: []) _ _
  have hw := wp_if hw
  refine G_if_eq (tgt := 43) dX10_canBurn_9 rfl (fun c6 => ?_) (fun c6 => ?_)
  · have hw := hw.1 c6
    refine G_iconst (v := (0 : Int32)) dX10_canBurn_43 (by decide) ?_
    exact G_zreturn rfl dX10_canBurn_44 rfl ⟨_, rfl, wp_ret hw⟩
  · have hw := hw.2 c6
    refine G_aload_n dX10_canBurn_12 rfl ?_
    obtain ⟨c7, hw⟩ := wp_ck hw
    refine G_getR fl_X10_valley w_507 dX10_canBurn_13 c7 ?_
    obtain ⟨a8, ea8, hw⟩ := wp_rq hw
    refine G.sure ea8 ?_
    refine G_iconst (v := (0 : Int32)) dX10_canBurn_16 (by decide) ?_
    refine G_iload_n dX10_canBurn_17 rfl ?_
    obtain ⟨c11, hw⟩ := wp_ck hw
    refine G_callV (As := [.int (0 : Int32), .int l2]) (s_X6_has hs a8 (0 : Int32) l2 h4 _ (wp_cl hw)) ca_X6_has w_955 w_956 (ci := 6) rfl (by decide) w_954 c11 (Nat.le_of_ble_eq_true rfl) (Nat.le_of_ble_eq_true rfl) rfl (Nat.le_of_ble_eq_true rfl) (Nat.le_of_ble_eq_true rfl) (Nat.le_of_ble_eq_true rfl) dX10_canBurn_18 rfl (fun v h10 hq => ?_)
    obtain ⟨r9, rfl, hw⟩ := hq
    refine G.cse (cs' := (0, 0)) rfl ?_
    show GZ _ _ _ _ _ _ _ 21 _ (.int r9 :: []) _ _
    have hw := wp_if hw
    refine G_if_eq (tgt := 43) dX10_canBurn_21 rfl (fun c12 => ?_) (fun c12 => ?_)
    · have hw := hw.1 c12
      refine G_iconst (v := (0 : Int32)) dX10_canBurn_43 (by decide) ?_
      exact G_zreturn rfl dX10_canBurn_44 rfl ⟨_, rfl, wp_ret hw⟩
    · have hw := hw.2 c12
      refine G_aload_n dX10_canBurn_24 rfl ?_
      obtain ⟨c13, hw⟩ := wp_ck hw
      refine G_getR fl_X10_now w_498 dX10_canBurn_25 c13 ?_
      obtain ⟨a14, ea14, hw⟩ := wp_rq hw
      refine G.sure ea14 ?_
      obtain ⟨c15, hw⟩ := wp_ck hw
      refine G_getNR fl_X2_state w_257 dX10_canBurn_28 c15 ?_
      obtain ⟨a16, ea16, hw⟩ := wp_rq hw
      refine G.sure ea16 ?_
      refine G_iload_n dX10_canBurn_31 rfl ?_
      refine G_iload_n dX10_canBurn_32 rfl ?_
      obtain ⟨c19, hw⟩ := wp_ck hw
      refine G_callV (As := [.int l1, .int l2]) (s_X4_canLight hs a16 l1 l2 h10 _ (wp_cl hw)) ca_X4_canLight w_1020 w_1021 (ci := 4) rfl (by decide) w_1019 c19 (Nat.le_of_ble_eq_true rfl) (Nat.le_of_ble_eq_true rfl) rfl (Nat.le_of_ble_eq_true rfl) (Nat.le_of_ble_eq_true rfl) (Nat.le_of_ble_eq_true rfl) dX10_canBurn_33 rfl (fun v h18 hq => ?_)
      obtain ⟨r17, rfl, hw⟩ := hq
      refine G.cse (cs' := (0, 0)) rfl ?_
      show GZ _ _ _ _ _ _ _ 36 _ (.int r17 :: []) _ _
      have hw := wp_if hw
      refine G_if_eq (tgt := 43) dX10_canBurn_36 rfl (fun c20 => ?_) (fun c20 => ?_)
      · have hw := hw.1 c20
        refine G_iconst (v := (0 : Int32)) dX10_canBurn_43 (by decide) ?_
        exact G_zreturn rfl dX10_canBurn_44 rfl ⟨_, rfl, wp_ret hw⟩
      · have hw := hw.2 c20
        refine G_iconst (v := (1 : Int32)) dX10_canBurn_39 (by decide) ?_
        refine G_goto (tgt := 44) dX10_canBurn_40 rfl ?_
        exact G_zreturn rfl dX10_canBurn_44 rfl ⟨_, rfl, wp_ret hw⟩
set_option maxHeartbeats 4000000 in
set_option maxRecDepth 100000 in
theorem s_X4_copy {Γ : GX} (hs : SF Γ) {N : Nat} (l0 : Nat) (l1 : Nat) (h : PH) (Q : Unit → PH → Prop) (hw : wp (f_X4_copy N l0 l1 h) Q) : Spec Γ yX4_copy cX4_copy 2 none (2, 0, 0) [.ref l0, .ref l1] h (q_u Q) := by
  refine Spec.of (by decide) (Nat.le_of_ble_eq_true rfl) [some (.ref l0), some (.ref l1)] rfl ?_
  unfold f_X4_copy at hw
  refine G_aload_n dX4_copy_0 rfl ?_
  refine G_aload_n dX4_copy_1 rfl ?_
  obtain ⟨c1, hw⟩ := wp_ck hw
  refine G_getI fl_X4_hour w_216 dX4_copy_2 c1 ?_
  obtain ⟨c2, hw⟩ := wp_ck hw
  refine G_putI fl_X4_hour w_216 dX4_copy_5 c2 ?_
  refine G.nmh fun h3 eh3 => ?_
  have hw := wp_bd hw h3 eh3
  refine G_aload_n dX4_copy_8 rfl ?_
  obtain ⟨c4, hw⟩ := wp_ck hw
  refine G_getR fl_X4_stock w_220 dX4_copy_9 c4 ?_
  obtain ⟨a5, ea5, hw⟩ := wp_rq hw
  refine G.sure ea5 ?_
  refine G_iconst (v := (0 : Int32)) dX4_copy_12 (by decide) ?_
  refine G_aload_n dX4_copy_13 rfl ?_
  obtain ⟨c6, hw⟩ := wp_ck hw
  refine G_getR fl_X4_stock w_220 dX4_copy_14 c6 ?_
  obtain ⟨a7, ea7, hw⟩ := wp_rq hw
  refine G.sure ea7 ?_
  refine G_iconst (v := (0 : Int32)) dX4_copy_17 (by decide) ?_
  refine G_aload_n dX4_copy_18 rfl ?_
  refine G_getR fl_X4_stock w_220 dX4_copy_19 c6 ?_
  obtain ⟨a8, ea8, hw⟩ := wp_rq hw
  refine G.sure ea8 ?_
  obtain ⟨c9, hw⟩ := wp_ck hw
  refine G_alen12 dX4_copy_22 c9 ?_
  obtain ⟨c10, hw⟩ := wp_ck hw
  obtain ⟨c11, hw⟩ := wp_ck hw
  obtain ⟨c12, hw⟩ := wp_ck hw
  obtain ⟨c13, hw⟩ := wp_ck hw
  obtain ⟨c14, hw⟩ := wp_ck hw
  refine G_acopy w_907 w_909 w_908 w_148 c10 c11 (by decide) (by decide) c12 c13 c14 dX4_copy_23 (Nat.le_of_ble_eq_true rfl) (Nat.le_of_ble_eq_true rfl) ?_
  refine G.nmh fun h15 eh15 => ?_
  have hw := wp_bd hw h15 eh15
  refine G_aload_n dX4_copy_26 rfl ?_
  obtain ⟨c16, hw⟩ := wp_ck hw
  refine G_getR fl_X4_fuel w_221 dX4_copy_27 c16 ?_
  obtain ⟨a17, ea17, hw⟩ := wp_rq hw
  refine G.sure ea17 ?_
  refine G_iconst (v := (0 : Int32)) dX4_copy_30 (by decide) ?_
  refine G_aload_n dX4_copy_31 rfl ?_
  obtain ⟨c18, hw⟩ := wp_ck hw
  refine G_getR fl_X4_fuel w_221 dX4_copy_32 c18 ?_
  obtain ⟨a19, ea19, hw⟩ := wp_rq hw
  refine G.sure ea19 ?_
  refine G_iconst (v := (0 : Int32)) dX4_copy_35 (by decide) ?_
  refine G_aload_n dX4_copy_36 rfl ?_
  refine G_getR fl_X4_fuel w_221 dX4_copy_37 c18 ?_
  obtain ⟨a20, ea20, hw⟩ := wp_rq hw
  refine G.sure ea20 ?_
  obtain ⟨c21, hw⟩ := wp_ck hw
  refine G_alen12 dX4_copy_40 c21 ?_
  obtain ⟨c22, hw⟩ := wp_ck hw
  obtain ⟨c23, hw⟩ := wp_ck hw
  obtain ⟨c24, hw⟩ := wp_ck hw
  obtain ⟨c25, hw⟩ := wp_ck hw
  obtain ⟨c26, hw⟩ := wp_ck hw
  refine G_acopy w_907 w_909 w_908 w_148 c22 c23 (by decide) (by decide) c24 c25 c26 dX4_copy_41 (Nat.le_of_ble_eq_true rfl) (Nat.le_of_ble_eq_true rfl) ?_
  refine G.nmh fun h27 eh27 => ?_
  have hw := wp_bd hw h27 eh27
  refine G_aload_n dX4_copy_44 rfl ?_
  obtain ⟨c28, hw⟩ := wp_ck hw
  refine G_getR fl_X4_left w_224 dX4_copy_45 c28 ?_
  obtain ⟨a29, ea29, hw⟩ := wp_rq hw
  refine G.sure ea29 ?_
  refine G_iconst (v := (0 : Int32)) dX4_copy_48 (by decide) ?_
  refine G_aload_n dX4_copy_49 rfl ?_
  obtain ⟨c30, hw⟩ := wp_ck hw
  refine G_getR fl_X4_left w_224 dX4_copy_50 c30 ?_
  obtain ⟨a31, ea31, hw⟩ := wp_rq hw
  refine G.sure ea31 ?_
  refine G_iconst (v := (0 : Int32)) dX4_copy_53 (by decide) ?_
  refine G_aload_n dX4_copy_54 rfl ?_
  refine G_getR fl_X4_left w_224 dX4_copy_55 c30 ?_
  obtain ⟨a32, ea32, hw⟩ := wp_rq hw
  refine G.sure ea32 ?_
  obtain ⟨c33, hw⟩ := wp_ck hw
  refine G_alen12 dX4_copy_58 c33 ?_
  obtain ⟨c34, hw⟩ := wp_ck hw
  obtain ⟨c35, hw⟩ := wp_ck hw
  obtain ⟨c36, hw⟩ := wp_ck hw
  obtain ⟨c37, hw⟩ := wp_ck hw
  obtain ⟨c38, hw⟩ := wp_ck hw
  refine G_acopy w_907 w_909 w_908 w_148 c34 c35 (by decide) (by decide) c36 c37 c38 dX4_copy_59 (Nat.le_of_ble_eq_true rfl) (Nat.le_of_ble_eq_true rfl) ?_
  refine G.nmh fun h39 eh39 => ?_
  have hw := wp_bd hw h39 eh39
  refine G_aload_n dX4_copy_62 rfl ?_
  obtain ⟨c40, hw⟩ := wp_ck hw
  refine G_getR fl_X4_soot w_227 dX4_copy_63 c40 ?_
  obtain ⟨a41, ea41, hw⟩ := wp_rq hw
  refine G.sure ea41 ?_
  refine G_iconst (v := (0 : Int32)) dX4_copy_66 (by decide) ?_
  refine G_aload_n dX4_copy_67 rfl ?_
  obtain ⟨c42, hw⟩ := wp_ck hw
  refine G_getR fl_X4_soot w_227 dX4_copy_68 c42 ?_
  obtain ⟨a43, ea43, hw⟩ := wp_rq hw
  refine G.sure ea43 ?_
  refine G_iconst (v := (0 : Int32)) dX4_copy_71 (by decide) ?_
  refine G_aload_n dX4_copy_72 rfl ?_
  refine G_getR fl_X4_soot w_227 dX4_copy_73 c42 ?_
  obtain ⟨a44, ea44, hw⟩ := wp_rq hw
  refine G.sure ea44 ?_
  obtain ⟨c45, hw⟩ := wp_ck hw
  refine G_alen12 dX4_copy_76 c45 ?_
  obtain ⟨c46, hw⟩ := wp_ck hw
  obtain ⟨c47, hw⟩ := wp_ck hw
  obtain ⟨c48, hw⟩ := wp_ck hw
  obtain ⟨c49, hw⟩ := wp_ck hw
  obtain ⟨c50, hw⟩ := wp_ck hw
  refine G_acopy w_907 w_909 w_908 w_148 c46 c47 (by decide) (by decide) c48 c49 c50 dX4_copy_77 (Nat.le_of_ble_eq_true rfl) (Nat.le_of_ble_eq_true rfl) ?_
  refine G.nmh fun h51 eh51 => ?_
  have hw := wp_bd hw h51 eh51
  exact G_vreturn rfl dX4_copy_80 ⟨rfl, wp_ret hw⟩
set_option maxHeartbeats 4000000 in
set_option maxRecDepth 100000 in
theorem s_X10_remember {Γ : GX} (hs : SF Γ) {N : Nat} (l0 : Nat) (h : PH) (Q : Unit → PH → Prop) (hw : wp (f_X10_remember N l0 h) Q) : Spec Γ yX10_remember cX10_remember 1 none (3, 0, 0) [.ref l0] h (q_u Q) := by
  refine Spec.of (by decide) (Nat.le_of_ble_eq_true rfl) [some (.ref l0)] rfl ?_
  unfold f_X10_remember at hw
  refine G_aload_n dX10_remember_0 rfl ?_
  obtain ⟨c1, hw⟩ := wp_ck hw
  refine G_getR fl_X10_past w_500 dX10_remember_1 c1 ?_
  obtain ⟨a2, ea2, hw⟩ := wp_rq hw
  refine G.sure ea2 ?_
  refine G_aload_n dX10_remember_4 rfl ?_
  refine G_getI fl_X10_pastNext w_510 dX10_remember_5 c1 ?_
  obtain ⟨c3, hw⟩ := wp_ck hw
  obtain ⟨c4, hw⟩ := wp_ck hw
  refine G_aaload16 dX10_remember_8 c3 c4 ?_
  obtain ⟨a5, ea5, hw⟩ := wp_rq hw
  refine G.sure ea5 ?_
  refine G_aload_n dX10_remember_9 rfl ?_
  refine G_getR fl_X10_now w_498 dX10_remember_10 c1 ?_
  obtain ⟨a6, ea6, hw⟩ := wp_rq hw
  refine G.sure ea6 ?_
  obtain ⟨c7, hw⟩ := wp_ck hw
  refine G_getNR fl_X2_state w_257 dX10_remember_13 c7 ?_
  obtain ⟨a8, ea8, hw⟩ := wp_rq hw
  refine G.sure ea8 ?_
  obtain ⟨c11, hw⟩ := wp_ck hw
  refine G_callV (As := [.ref a8]) (s_X4_copy hs a5 a8 h _ (wp_cl hw)) ca_X4_copy w_1033 w_1034 (ci := 4) rfl (by decide) w_1032 c11 (Nat.le_of_ble_eq_true rfl) (Nat.le_of_ble_eq_true rfl) rfl (Nat.le_of_ble_eq_true rfl) (Nat.le_of_ble_eq_true rfl) (Nat.le_of_ble_eq_true rfl) dX10_remember_16 rfl (fun v h10 hq => ?_)
  obtain ⟨rfl, hw⟩ := hq
  refine G.cse (cs' := (0, 0)) rfl ?_
  show GZ _ _ _ _ _ _ _ 19 _ [] _ _
  refine G_aload_n dX10_remember_19 rfl ?_
  refine G_aload_n dX10_remember_20 rfl ?_
  obtain ⟨c12, hw⟩ := wp_ck hw
  refine G_getI fl_X10_pastNext w_510 dX10_remember_21 c12 ?_
  refine G_iconst (v := (1 : Int32)) dX10_remember_24 (by decide) ?_
  refine G_iadd dX10_remember_25 ?_
  refine G_bipush (v := (16 : Int32)) dX10_remember_26 (by decide) ?_
  refine G_irem dX10_remember_28 (by decide) ?_
  refine G_putI fl_X10_pastNext w_510 dX10_remember_29 c12 ?_
  refine G.nmh fun h13 eh13 => ?_
  have hw := wp_bd hw h13 eh13
  refine G_aload_n dX10_remember_32 rfl ?_
  refine G_aload_n dX10_remember_33 rfl ?_
  obtain ⟨c14, hw⟩ := wp_ck hw
  refine G_getI fl_X10_pastCount w_511 dX10_remember_34 c14 ?_
  refine G_iconst (v := (1 : Int32)) dX10_remember_37 (by decide) ?_
  refine G_iadd dX10_remember_38 ?_
  refine G_bipush (v := (16 : Int32)) dX10_remember_39 (by decide) ?_
  refine G_mmin w_993 w_642 w_139 w_643 dX10_remember_41 (Nat.le_of_ble_eq_true rfl) (Nat.le_of_ble_eq_true rfl) (Nat.le_of_ble_eq_true rfl) (Nat.le_of_ble_eq_true rfl) ?_
  refine G_putI fl_X10_pastCount w_511 dX10_remember_44 c14 ?_
  refine G.nmh fun h15 eh15 => ?_
  have hw := wp_bd hw h15 eh15
  exact G_vreturn rfl dX10_remember_47 ⟨rfl, wp_ret hw⟩
set_option maxHeartbeats 4000000 in
set_option maxRecDepth 100000 in
theorem s_X4_light {Γ : GX} (hs : SF Γ) {N : Nat} (l0 : Nat) (l1 : Nat) (l2 : Int32) (l3 : Int32) (h : PH) (Q : Int32 → PH → Prop) (hw : wp (f_X4_light N l0 l1 l2 l3 h) Q) : Spec Γ yX4_light cX4_light 4 (some .boolean) (3, 0, 0) [.ref l0, .ref l1, .int l2, .int l3] h (q_i Q) := by
  refine Spec.of (by decide) (Nat.le_of_ble_eq_true rfl) [some (.ref l0), some (.ref l1), some (.int l2), some (.int l3)] rfl ?_
  unfold f_X4_light at hw
  refine G_aload_n dX4_light_0 rfl ?_
  refine G_iload_n dX4_light_1 rfl ?_
  refine G_iload_n dX4_light_2 rfl ?_
  obtain ⟨c3, hw⟩ := wp_ck hw
  refine G_callV (As := [.int l2, .int l3]) (s_X4_canLight hs l0 l2 l3 h _ (wp_cl hw)) ca_X4_canLight w_1020 w_1021 (ci := 4) rfl (by decide) w_1040 c3 (Nat.le_of_ble_eq_true rfl) (Nat.le_of_ble_eq_true rfl) rfl (Nat.le_of_ble_eq_true rfl) (Nat.le_of_ble_eq_true rfl) (Nat.le_of_ble_eq_true rfl) dX4_light_3 rfl (fun v h2 hq => ?_)
  obtain ⟨r1, rfl, hw⟩ := hq
  refine G.cse (cs' := (0, 0)) rfl ?_
  show GZ _ _ _ _ _ _ _ 6 _ (.int r1 :: []) _ _
  have hw := wp_if hw
  refine G_if_ne (tgt := 11) dX4_light_6 rfl (fun c4 => ?_) (fun c4 => ?_)
  · have hw := hw.2 c4
    refine G_aload_n dX4_light_11 rfl ?_
    obtain ⟨c5, hw⟩ := wp_ck hw
    refine G_getR fl_X4_stock w_220 dX4_light_12 c5 ?_
    obtain ⟨a6, ea6, hw⟩ := wp_rq hw
    refine G.sure ea6 ?_
    refine G_iload_n dX4_light_15 rfl ?_
    refine G_iconst (v := (5 : Int32)) dX4_light_16 (by decide) ?_
    refine G_imul dX4_light_17 ?_
    refine G_iload_n dX4_light_18 rfl ?_
    refine G_iadd dX4_light_19 ?_
    refine G.topi fun v7 ev7 => ?_
    have hw := wp_bd hw v7 ev7
    refine G_dup2 dX4_light_20 rfl rfl ?_
    obtain ⟨c8, hw⟩ := wp_ck hw
    obtain ⟨c9, hw⟩ := wp_ck hw
    refine G_iaload dX4_light_21 c8 c9 ?_
    refine G_iconst (v := (1 : Int32)) dX4_light_22 (by decide) ?_
    refine G_isub dX4_light_23 ?_
    refine G_iastore dX4_light_24 c8 c9 ?_
    refine G.nmh fun h10 eh10 => ?_
    have hw := wp_bd hw h10 eh10
    refine G_aload_n dX4_light_25 rfl ?_
    obtain ⟨c11, hw⟩ := wp_ck hw
    refine G_getR fl_X4_fuel w_221 dX4_light_26 c11 ?_
    obtain ⟨a12, ea12, hw⟩ := wp_rq hw
    refine G.sure ea12 ?_
    refine G_iload_n dX4_light_29 rfl ?_
    refine G_iload_n dX4_light_30 rfl ?_
    obtain ⟨c13, hw⟩ := wp_ck hw
    obtain ⟨c14, hw⟩ := wp_ck hw
    refine G_iastore dX4_light_31 c13 c14 ?_
    refine G.nmh fun h15 eh15 => ?_
    have hw := wp_bd hw h15 eh15
    refine G_aload_n dX4_light_32 rfl ?_
    obtain ⟨c16, hw⟩ := wp_ck hw
    refine G_getR fl_X4_left w_224 dX4_light_33 c16 ?_
    obtain ⟨a17, ea17, hw⟩ := wp_rq hw
    refine G.sure ea17 ?_
    refine G_iload_n dX4_light_36 rfl ?_
    refine G_aload_n dX4_light_37 rfl ?_
    obtain ⟨c18, hw⟩ := wp_ck hw
    refine G_getNR fl_X6_fuelBurns w_440 dX4_light_38 c18 ?_
    obtain ⟨a19, ea19, hw⟩ := wp_rq hw
    refine G.sure ea19 ?_
    refine G_iload_n dX4_light_41 rfl ?_
    obtain ⟨c20, hw⟩ := wp_ck hw
    obtain ⟨c21, hw⟩ := wp_ck hw
    refine G_iaload dX4_light_42 c20 c21 ?_
    obtain ⟨c22, hw⟩ := wp_ck hw
    obtain ⟨c23, hw⟩ := wp_ck hw
    refine G_iastore dX4_light_43 c22 c23 ?_
    refine G.nmh fun h24 eh24 => ?_
    have hw := wp_bd hw h24 eh24
    refine G_iconst (v := (1 : Int32)) dX4_light_44 (by decide) ?_
    exact G_zreturn rfl dX4_light_45 rfl ⟨_, rfl, wp_ret hw⟩
  · have hw := hw.1 c4
    refine G_iconst (v := (0 : Int32)) dX4_light_9 (by decide) ?_
    exact G_zreturn rfl dX4_light_10 rfl ⟨_, rfl, wp_ret hw⟩
set_option maxHeartbeats 4000000 in
set_option maxRecDepth 100000 in
theorem s_X10_burn {Γ : GX} (hs : SF Γ) {N : Nat} (l0 : Nat) (l1 : Int32) (l2 : Int32) (h : PH) (Q : Int32 → PH → Prop) (hw : wp (f_X10_burn N l0 l1 l2 h) Q) : Spec Γ yX10_burn cX10_burn 3 (some .boolean) (4, 0, 0) [.ref l0, .int l1, .int l2] h (q_i Q) := by
  refine Spec.of (by decide) (Nat.le_of_ble_eq_true rfl) [some (.ref l0), some (.int l1), some (.int l2)] rfl ?_
  unfold f_X10_burn at hw
  refine G_aload_n dX10_burn_0 rfl ?_
  refine G_iload_n dX10_burn_1 rfl ?_
  refine G_iload_n dX10_burn_2 rfl ?_
  obtain ⟨c3, hw⟩ := wp_ck hw
  refine G_callV (As := [.int l1, .int l2]) (s_X10_canBurn hs l0 l1 l2 h _ (wp_cl hw)) ca_X10_canBurn w_1017 w_22 (ci := 9) rfl (by decide) w_1015 c3 (Nat.le_of_ble_eq_true rfl) (Nat.le_of_ble_eq_true rfl) rfl (Nat.le_of_ble_eq_true rfl) (Nat.le_of_ble_eq_true rfl) (Nat.le_of_ble_eq_true rfl) dX10_burn_3 rfl (fun v h2 hq => ?_)
  obtain ⟨r1, rfl, hw⟩ := hq
  refine G.cse (cs' := (0, 0)) rfl ?_
  show GZ _ _ _ _ _ _ _ 6 _ (.int r1 :: []) _ _
  have hw := wp_if hw
  refine G_if_ne (tgt := 11) dX10_burn_6 rfl (fun c4 => ?_) (fun c4 => ?_)
  · have hw := hw.2 c4
    refine G_aload_n dX10_burn_11 rfl ?_
    obtain ⟨c7, hw⟩ := wp_ck hw
    refine G_callV (As := []) (s_X10_remember hs l0 h2 _ (wp_cl hw)) ca_X10_remember w_1030 w_23 (ci := 9) rfl (by decide) w_1028 c7 (Nat.le_of_ble_eq_true rfl) (Nat.le_of_ble_eq_true rfl) rfl (Nat.le_of_ble_eq_true rfl) (Nat.le_of_ble_eq_true rfl) (Nat.le_of_ble_eq_true rfl) dX10_burn_12 rfl (fun v h6 hq => ?_)
    obtain ⟨rfl, hw⟩ := hq
    refine G.cse (cs' := (0, 0)) rfl ?_
    show GZ _ _ _ _ _ _ _ 15 _ [] _ _
    refine G_aload_n dX10_burn_15 rfl ?_
    obtain ⟨c8, hw⟩ := wp_ck hw
    refine G_getR fl_X10_now w_498 dX10_burn_16 c8 ?_
    obtain ⟨a9, ea9, hw⟩ := wp_rq hw
    refine G.sure ea9 ?_
    obtain ⟨c10, hw⟩ := wp_ck hw
    refine G_getNR fl_X2_state w_257 dX10_burn_19 c10 ?_
    obtain ⟨a11, ea11, hw⟩ := wp_rq hw
    refine G.sure ea11 ?_
    refine G_aload_n dX10_burn_22 rfl ?_
    refine G_getR fl_X10_valley w_507 dX10_burn_23 c8 ?_
    obtain ⟨a12, ea12, hw⟩ := wp_rq hw
    refine G.sure ea12 ?_
    refine G_iload_n dX10_burn_26 rfl ?_
    refine G_iload_n dX10_burn_27 rfl ?_
    obtain ⟨c15, hw⟩ := wp_ck hw
    refine G_callV (As := [.ref a12, .int l1, .int l2]) (s_X4_light hs a11 a12 l1 l2 h6 _ (wp_cl hw)) ca_X4_light w_1037 w_1038 (ci := 4) rfl (by decide) w_1036 c15 (Nat.le_of_ble_eq_true rfl) (Nat.le_of_ble_eq_true rfl) rfl (Nat.le_of_ble_eq_true rfl) (Nat.le_of_ble_eq_true rfl) (Nat.le_of_ble_eq_true rfl) dX10_burn_28 rfl (fun v h14 hq => ?_)
    obtain ⟨r13, rfl, hw⟩ := hq
    refine G.cse (cs' := (0, 0)) rfl ?_
    show GZ _ _ _ _ _ _ _ 31 _ (.int r13 :: []) _ _
    obtain ⟨c16, hw⟩ := wp_ck hw
    exact G_zreturn rfl dX10_burn_31 (g_nb c16) ⟨_, rfl, wp_ret hw⟩
  · have hw := hw.1 c4
    refine G_iconst (v := (0 : Int32)) dX10_burn_9 (by decide) ?_
    exact G_zreturn rfl dX10_burn_10 rfl ⟨_, rfl, wp_ret hw⟩
set_option maxHeartbeats 4000000 in
set_option maxRecDepth 100000 in
theorem s_X4_canHand {Γ : GX} (hs : SF Γ) {N : Nat} (l0 : Nat) (l1 : Int32) (l2 : Int32) (l3 : Int32) (l4 : Int32) (h : PH) (Q : Int32 → PH → Prop) (hw : wp (f_X4_canHand N l0 l1 l2 l3 l4 h) Q) : Spec Γ yX4_canHand cX4_canHand 5 (some .boolean) (2, 0, 0) [.ref l0, .int l1, .int l2, .int l3, .int l4] h (q_i Q) := by
  refine Spec.of (by decide) (Nat.le_of_ble_eq_true rfl) [some (.ref l0), some (.int l1), some (.int l2), some (.int l3), some (.int l4)] rfl ?_
  unfold f_X4_canHand at hw
  refine G_iload_n dX4_canHand_0 rfl ?_
  have hw := wp_if hw
  refine G_if_lt (tgt := 14) dX4_canHand_1 rfl (fun c1 => ?_) (fun c1 => ?_)
  · have hw := hw.1 c1
    refine G_iconst (v := (0 : Int32)) dX4_canHand_14 (by decide) ?_
    exact G_zreturn rfl dX4_canHand_15 rfl ⟨_, rfl, wp_ret hw⟩
  · have hw := hw.2 c1
    refine G_iload_n dX4_canHand_4 rfl ?_
    refine G_iconst (v := (4 : Int32)) dX4_canHand_5 (by decide) ?_
    have hw := wp_if hw
    refine G_icmp_ge (tgt := 14) dX4_canHand_6 rfl (fun c2 => ?_) (fun c2 => ?_)
    · have hw := hw.1 c2
      refine G_iconst (v := (0 : Int32)) dX4_canHand_14 (by decide) ?_
      exact G_zreturn rfl dX4_canHand_15 rfl ⟨_, rfl, wp_ret hw⟩
    · have hw := hw.2 c2
      refine G_iload_n dX4_canHand_9 rfl ?_
      refine G_iload_n dX4_canHand_10 rfl ?_
      have hw := wp_if hw
      refine G_icmp_ne (tgt := 16) dX4_canHand_11 rfl (fun c3 => ?_) (fun c3 => ?_)
      · have hw := hw.2 c3
        refine G_iload dX4_canHand_16 rfl ?_
        have hw := wp_if hw
        refine G_if_le (tgt := 36) dX4_canHand_18 rfl (fun c4 => ?_) (fun c4 => ?_)
        · have hw := hw.1 c4
          refine G_iconst (v := (0 : Int32)) dX4_canHand_36 (by decide) ?_
          exact G_zreturn rfl dX4_canHand_37 rfl ⟨_, rfl, wp_ret hw⟩
        · have hw := hw.2 c4
          refine G_aload_n dX4_canHand_21 rfl ?_
          refine G_iload_n dX4_canHand_22 rfl ?_
          refine G_iload_n dX4_canHand_23 rfl ?_
          obtain ⟨c7, hw⟩ := wp_ck hw
          refine G_callV (As := [.int l1, .int l3]) (s_X4_stockOf hs l0 l1 l3 h _ (wp_cl hw)) ca_X4_stockOf w_959 w_960 (ci := 4) rfl (by decide) w_1027 c7 (Nat.le_of_ble_eq_true rfl) (Nat.le_of_ble_eq_true rfl) rfl (Nat.le_of_ble_eq_true rfl) (Nat.le_of_ble_eq_true rfl) (Nat.le_of_ble_eq_true rfl) dX4_canHand_24 rfl (fun v h6 hq => ?_)
          obtain ⟨r5, rfl, hw⟩ := hq
          refine G.cse (cs' := (0, 0)) rfl ?_
          show GZ _ _ _ _ _ _ _ 27 _ (.int r5 :: []) _ _
          refine G_iload dX4_canHand_27 rfl ?_
          have hw := wp_if hw
          refine G_icmp_lt (tgt := 36) dX4_canHand_29 rfl (fun c8 => ?_) (fun c8 => ?_)
          · have hw := hw.1 c8
            refine G_iconst (v := (0 : Int32)) dX4_canHand_36 (by decide) ?_
            exact G_zreturn rfl dX4_canHand_37 rfl ⟨_, rfl, wp_ret hw⟩
          · have hw := hw.2 c8
            refine G_iconst (v := (1 : Int32)) dX4_canHand_32 (by decide) ?_
            refine G_goto (tgt := 37) dX4_canHand_33 rfl ?_
            exact G_zreturn rfl dX4_canHand_37 rfl ⟨_, rfl, wp_ret hw⟩
      · have hw := hw.1 c3
        refine G_iconst (v := (0 : Int32)) dX4_canHand_14 (by decide) ?_
        exact G_zreturn rfl dX4_canHand_15 rfl ⟨_, rfl, wp_ret hw⟩
set_option maxHeartbeats 4000000 in
set_option maxRecDepth 100000 in
theorem s_X4_hand {Γ : GX} (hs : SF Γ) {N : Nat} (l0 : Nat) (l1 : Int32) (l2 : Int32) (l3 : Int32) (l4 : Int32) (h : PH) (Q : Int32 → PH → Prop) (hw : wp (f_X4_hand N l0 l1 l2 l3 l4 h) Q) : Spec Γ yX4_hand cX4_hand 6 (some .boolean) (3, 0, 0) [.ref l0, .int l1, .int l2, .int l3, .int l4] h (q_i Q) := by
  refine Spec.of (by decide) (Nat.le_of_ble_eq_true rfl) [some (.ref l0), some (.int l1), some (.int l2), some (.int l3), some (.int l4), none] rfl ?_
  unfold f_X4_hand at hw
  refine G_aload_n dX4_hand_0 rfl ?_
  refine G_iload_n dX4_hand_1 rfl ?_
  refine G_iload_n dX4_hand_2 rfl ?_
  refine G_iload_n dX4_hand_3 rfl ?_
  refine G_iload dX4_hand_4 rfl ?_
  obtain ⟨c3, hw⟩ := wp_ck hw
  refine G_callV (As := [.int l1, .int l2, .int l3, .int l4]) (s_X4_canHand hs l0 l1 l2 l3 l4 h _ (wp_cl hw)) ca_X4_canHand w_1046 w_1047 (ci := 4) rfl (by decide) w_1053 c3 (Nat.le_of_ble_eq_true rfl) (Nat.le_of_ble_eq_true rfl) rfl (Nat.le_of_ble_eq_true rfl) (Nat.le_of_ble_eq_true rfl) (Nat.le_of_ble_eq_true rfl) dX4_hand_6 rfl (fun v h2 hq => ?_)
  obtain ⟨r1, rfl, hw⟩ := hq
  refine G.cse (cs' := (0, 0)) rfl ?_
  show GZ _ _ _ _ _ _ _ 9 _ (.int r1 :: []) _ _
  have hw := wp_if hw
  refine G_if_ne (tgt := 14) dX4_hand_9 rfl (fun c4 => ?_) (fun c4 => ?_)
  · have hw := hw.2 c4
    refine G_aload_n dX4_hand_14 rfl ?_
    obtain ⟨c5, hw⟩ := wp_ck hw
    refine G_getR fl_X4_stock w_220 dX4_hand_15 c5 ?_
    obtain ⟨a6, ea6, hw⟩ := wp_rq hw
    refine G.sure ea6 ?_
    refine G_iload_n dX4_hand_18 rfl ?_
    refine G_iconst (v := (5 : Int32)) dX4_hand_19 (by decide) ?_
    refine G_imul dX4_hand_20 ?_
    refine G_iload_n dX4_hand_21 rfl ?_
    refine G_iadd dX4_hand_22 ?_
    refine G.topi fun v7 ev7 => ?_
    have hw := wp_bd hw v7 ev7
    refine G_dup2 dX4_hand_23 rfl rfl ?_
    obtain ⟨c8, hw⟩ := wp_ck hw
    obtain ⟨c9, hw⟩ := wp_ck hw
    refine G_iaload dX4_hand_24 c8 c9 ?_
    refine G_iload dX4_hand_25 rfl ?_
    refine G_isub dX4_hand_27 ?_
    refine G_iastore dX4_hand_28 c8 c9 ?_
    refine G.nmh fun h10 eh10 => ?_
    have hw := wp_bd hw h10 eh10
    refine G_aload_n dX4_hand_29 rfl ?_
    refine G_iload_n dX4_hand_30 rfl ?_
    refine G_iload_n dX4_hand_31 rfl ?_
    obtain ⟨c13, hw⟩ := wp_ck hw
    refine G_callV (As := [.int l2, .int l3]) (s_X4_stockOf hs l0 l2 l3 h10 _ (wp_cl hw)) ca_X4_stockOf w_959 w_960 (ci := 4) rfl (by decide) w_1027 c13 (Nat.le_of_ble_eq_true rfl) (Nat.le_of_ble_eq_true rfl) rfl (Nat.le_of_ble_eq_true rfl) (Nat.le_of_ble_eq_true rfl) (Nat.le_of_ble_eq_true rfl) dX4_hand_32 rfl (fun v h12 hq => ?_)
    obtain ⟨r11, rfl, hw⟩ := hq
    refine G.cse (cs' := (0, 0)) rfl ?_
    show GZ _ _ _ _ _ _ _ 35 _ (.int r11 :: []) _ _
    refine G_iload dX4_hand_35 rfl ?_
    refine G_iadd dX4_hand_37 ?_
    refine G.topi fun v14 ev14 => ?_
    have hw := wp_bd hw v14 ev14
    refine G_istore (lv' := [some (.ref l0), some (.int l1), some (.int l2), some (.int l3), some (.int l4), some (.int v14)]) dX4_hand_38 (Nat.le_of_ble_eq_true rfl) rfl ?_
    refine G_aload_n dX4_hand_40 rfl ?_
    obtain ⟨c15, hw⟩ := wp_ck hw
    refine G_getR fl_X4_stock w_220 dX4_hand_41 c15 ?_
    obtain ⟨a16, ea16, hw⟩ := wp_rq hw
    refine G.sure ea16 ?_
    refine G_iload_n dX4_hand_44 rfl ?_
    refine G_iconst (v := (5 : Int32)) dX4_hand_45 (by decide) ?_
    refine G_imul dX4_hand_46 ?_
    refine G_iload_n dX4_hand_47 rfl ?_
    refine G_iadd dX4_hand_48 ?_
    refine G_iload dX4_hand_49 rfl ?_
    refine G_bipush (v := (99 : Int32)) dX4_hand_51 (by decide) ?_
    refine G_mmin w_995 w_642 w_139 w_643 dX4_hand_53 (Nat.le_of_ble_eq_true rfl) (Nat.le_of_ble_eq_true rfl) (Nat.le_of_ble_eq_true rfl) (Nat.le_of_ble_eq_true rfl) ?_
    obtain ⟨c17, hw⟩ := wp_ck hw
    obtain ⟨c18, hw⟩ := wp_ck hw
    refine G_iastore dX4_hand_56 c17 c18 ?_
    refine G.nmh fun h19 eh19 => ?_
    have hw := wp_bd hw h19 eh19
    refine G_iconst (v := (1 : Int32)) dX4_hand_57 (by decide) ?_
    exact G_zreturn rfl dX4_hand_58 rfl ⟨_, rfl, wp_ret hw⟩
  · have hw := hw.1 c4
    refine G_iconst (v := (0 : Int32)) dX4_hand_12 (by decide) ?_
    exact G_zreturn rfl dX4_hand_13 rfl ⟨_, rfl, wp_ret hw⟩
set_option maxHeartbeats 4000000 in
set_option maxRecDepth 100000 in
theorem s_X10_lend {Γ : GX} (hs : SF Γ) {N : Nat} (l0 : Nat) (l1 : Int32) (l2 : Int32) (l3 : Int32) (l4 : Int32) (h : PH) (Q : Int32 → PH → Prop) (hw : wp (f_X10_lend N l0 l1 l2 l3 l4 h) Q) : Spec Γ yX10_lend cX10_lend 5 (some .int) (4, 0, 0) [.ref l0, .int l1, .int l2, .int l3, .int l4] h (q_i Q) := by
  refine Spec.of (by decide) (Nat.le_of_ble_eq_true rfl) [some (.ref l0), some (.int l1), some (.int l2), some (.int l3), some (.int l4)] rfl ?_
  unfold f_X10_lend at hw
  refine G_aload_n dX10_lend_0 rfl ?_
  obtain ⟨c1, hw⟩ := wp_ck hw
  refine G_getR fl_X10_valley w_507 dX10_lend_1 c1 ?_
  obtain ⟨a2, ea2, hw⟩ := wp_rq hw
  refine G.sure ea2 ?_
  refine G_iconst (v := (2 : Int32)) dX10_lend_4 (by decide) ?_
  refine G_iload_n dX10_lend_5 rfl ?_
  obtain ⟨c5, hw⟩ := wp_ck hw
  refine G_callV (As := [.int (2 : Int32), .int l1]) (s_X6_has hs a2 (2 : Int32) l1 h _ (wp_cl hw)) ca_X6_has w_955 w_956 (ci := 6) rfl (by decide) w_954 c5 (Nat.le_of_ble_eq_true rfl) (Nat.le_of_ble_eq_true rfl) rfl (Nat.le_of_ble_eq_true rfl) (Nat.le_of_ble_eq_true rfl) (Nat.le_of_ble_eq_true rfl) dX10_lend_6 rfl (fun v h4 hq => ?_)
  obtain ⟨r3, rfl, hw⟩ := hq
  refine G.cse (cs' := (0, 0)) rfl ?_
  show GZ _ _ _ _ _ _ _ 9 _ (.int r3 :: []) _ _
  have hw := wp_if hw
  refine G_if_eq (tgt := 36) dX10_lend_9 rfl (fun c6 => ?_) (fun c6 => ?_)
  · have hw := hw.1 c6
    refine G_iconst (v := (-1 : Int32)) dX10_lend_36 (by decide) ?_
    exact G_ireturn rfl dX10_lend_37 ⟨_, rfl, wp_ret hw⟩
  · have hw := hw.2 c6
    refine G_aload_n dX10_lend_12 rfl ?_
    obtain ⟨c7, hw⟩ := wp_ck hw
    refine G_getR fl_X10_valley w_507 dX10_lend_13 c7 ?_
    obtain ⟨a8, ea8, hw⟩ := wp_rq hw
    refine G.sure ea8 ?_
    refine G_iconst (v := (2 : Int32)) dX10_lend_16 (by decide) ?_
    refine G_iload_n dX10_lend_17 rfl ?_
    obtain ⟨c11, hw⟩ := wp_ck hw
    refine G_callV (As := [.int (2 : Int32), .int l2]) (s_X6_has hs a8 (2 : Int32) l2 h4 _ (wp_cl hw)) ca_X6_has w_955 w_956 (ci := 6) rfl (by decide) w_954 c11 (Nat.le_of_ble_eq_true rfl) (Nat.le_of_ble_eq_true rfl) rfl (Nat.le_of_ble_eq_true rfl) (Nat.le_of_ble_eq_true rfl) (Nat.le_of_ble_eq_true rfl) dX10_lend_18 rfl (fun v h10 hq => ?_)
    obtain ⟨r9, rfl, hw⟩ := hq
    refine G.cse (cs' := (0, 0)) rfl ?_
    show GZ _ _ _ _ _ _ _ 21 _ (.int r9 :: []) _ _
    have hw := wp_if hw
    refine G_if_eq (tgt := 36) dX10_lend_21 rfl (fun c12 => ?_) (fun c12 => ?_)
    · have hw := hw.1 c12
      refine G_iconst (v := (-1 : Int32)) dX10_lend_36 (by decide) ?_
      exact G_ireturn rfl dX10_lend_37 ⟨_, rfl, wp_ret hw⟩
    · have hw := hw.2 c12
      refine G_aload_n dX10_lend_24 rfl ?_
      obtain ⟨c13, hw⟩ := wp_ck hw
      refine G_getR fl_X10_valley w_507 dX10_lend_25 c13 ?_
      obtain ⟨a14, ea14, hw⟩ := wp_rq hw
      refine G.sure ea14 ?_
      refine G_iconst (v := (0 : Int32)) dX10_lend_28 (by decide) ?_
      refine G_iload_n dX10_lend_29 rfl ?_
      obtain ⟨c17, hw⟩ := wp_ck hw
      refine G_callV (As := [.int (0 : Int32), .int l3]) (s_X6_has hs a14 (0 : Int32) l3 h10 _ (wp_cl hw)) ca_X6_has w_955 w_956 (ci := 6) rfl (by decide) w_954 c17 (Nat.le_of_ble_eq_true rfl) (Nat.le_of_ble_eq_true rfl) rfl (Nat.le_of_ble_eq_true rfl) (Nat.le_of_ble_eq_true rfl) (Nat.le_of_ble_eq_true rfl) dX10_lend_30 rfl (fun v h16 hq => ?_)
      obtain ⟨r15, rfl, hw⟩ := hq
      refine G.cse (cs' := (0, 0)) rfl ?_
      show GZ _ _ _ _ _ _ _ 33 _ (.int r15 :: []) _ _
      have hw := wp_if hw
      refine G_if_ne (tgt := 38) dX10_lend_33 rfl (fun c18 => ?_) (fun c18 => ?_)
      · have hw := hw.2 c18
        refine G_aload_n dX10_lend_38 rfl ?_
        obtain ⟨c19, hw⟩ := wp_ck hw
        refine G_getR fl_X10_now w_498 dX10_lend_39 c19 ?_
        obtain ⟨a20, ea20, hw⟩ := wp_rq hw
        refine G.sure ea20 ?_
        obtain ⟨c21, hw⟩ := wp_ck hw
        refine G_getNR fl_X2_state w_257 dX10_lend_42 c21 ?_
        obtain ⟨a22, ea22, hw⟩ := wp_rq hw
        refine G.sure ea22 ?_
        refine G_iload_n dX10_lend_45 rfl ?_
        refine G_iload_n dX10_lend_46 rfl ?_
        refine G_iload_n dX10_lend_47 rfl ?_
        refine G_iload dX10_lend_48 rfl ?_
        obtain ⟨c25, hw⟩ := wp_ck hw
        refine G_callV (As := [.int l1, .int l2, .int l3, .int l4]) (s_X4_canHand hs a22 l1 l2 l3 l4 h16 _ (wp_cl hw)) ca_X4_canHand w_1046 w_1047 (ci := 4) rfl (by decide) w_1045 c25 (Nat.le_of_ble_eq_true rfl) (Nat.le_of_ble_eq_true rfl) rfl (Nat.le_of_ble_eq_true rfl) (Nat.le_of_ble_eq_true rfl) (Nat.le_of_ble_eq_true rfl) dX10_lend_50 rfl (fun v h24 hq => ?_)
        obtain ⟨r23, rfl, hw⟩ := hq
        refine G.cse (cs' := (0, 0)) rfl ?_
        show GZ _ _ _ _ _ _ _ 53 _ (.int r23 :: []) _ _
        have hw := wp_if hw
        refine G_if_ne (tgt := 58) dX10_lend_53 rfl (fun c26 => ?_) (fun c26 => ?_)
        · have hw := hw.2 c26
          refine G_aload_n dX10_lend_58 rfl ?_
          obtain ⟨c29, hw⟩ := wp_ck hw
          refine G_callV (As := []) (s_X10_remember hs l0 h24 _ (wp_cl hw)) ca_X10_remember w_1030 w_23 (ci := 9) rfl (by decide) w_1028 c29 (Nat.le_of_ble_eq_true rfl) (Nat.le_of_ble_eq_true rfl) rfl (Nat.le_of_ble_eq_true rfl) (Nat.le_of_ble_eq_true rfl) (Nat.le_of_ble_eq_true rfl) dX10_lend_59 rfl (fun v h28 hq => ?_)
          obtain ⟨rfl, hw⟩ := hq
          refine G.cse (cs' := (0, 0)) rfl ?_
          show GZ _ _ _ _ _ _ _ 62 _ [] _ _
          refine G_aload_n dX10_lend_62 rfl ?_
          obtain ⟨c30, hw⟩ := wp_ck hw
          refine G_getR fl_X10_now w_498 dX10_lend_63 c30 ?_
          obtain ⟨a31, ea31, hw⟩ := wp_rq hw
          refine G.sure ea31 ?_
          obtain ⟨c32, hw⟩ := wp_ck hw
          refine G_getNR fl_X2_state w_257 dX10_lend_66 c32 ?_
          obtain ⟨a33, ea33, hw⟩ := wp_rq hw
          refine G.sure ea33 ?_
          refine G_iload_n dX10_lend_69 rfl ?_
          refine G_iload_n dX10_lend_70 rfl ?_
          refine G_iload_n dX10_lend_71 rfl ?_
          refine G_iload dX10_lend_72 rfl ?_
          obtain ⟨c36, hw⟩ := wp_ck hw
          refine G_callV (As := [.int l1, .int l2, .int l3, .int l4]) (s_X4_hand hs a33 l1 l2 l3 l4 h28 _ (wp_cl hw)) ca_X4_hand w_1050 w_1051 (ci := 4) rfl (by decide) w_1049 c36 (Nat.le_of_ble_eq_true rfl) (Nat.le_of_ble_eq_true rfl) rfl (Nat.le_of_ble_eq_true rfl) (Nat.le_of_ble_eq_true rfl) (Nat.le_of_ble_eq_true rfl) dX10_lend_74 rfl (fun v h35 hq => ?_)
          obtain ⟨r34, rfl, hw⟩ := hq
          refine G.cse (cs' := (0, 0)) rfl ?_
          show GZ _ _ _ _ _ _ _ 77 _ (.int r34 :: []) _ _
          refine G_pop dX10_lend_77 rfl ?_
          refine G_aload_n dX10_lend_78 rfl ?_
          obtain ⟨c37, hw⟩ := wp_ck hw
          refine G_getR fl_X10_now w_498 dX10_lend_79 c37 ?_
          obtain ⟨a38, ea38, hw⟩ := wp_rq hw
          refine G.sure ea38 ?_
          obtain ⟨c39, hw⟩ := wp_ck hw
          refine G_getNR fl_X2_state w_257 dX10_lend_82 c39 ?_
          obtain ⟨a40, ea40, hw⟩ := wp_rq hw
          refine G.sure ea40 ?_
          refine G_iload_n dX10_lend_85 rfl ?_
          refine G_iload_n dX10_lend_86 rfl ?_
          obtain ⟨c43, hw⟩ := wp_ck hw
          refine G_callV (As := [.int l2, .int l3]) (s_X4_stockOf hs a40 l2 l3 h35 _ (wp_cl hw)) ca_X4_stockOf w_959 w_960 (ci := 4) rfl (by decide) w_958 c43 (Nat.le_of_ble_eq_true rfl) (Nat.le_of_ble_eq_true rfl) rfl (Nat.le_of_ble_eq_true rfl) (Nat.le_of_ble_eq_true rfl) (Nat.le_of_ble_eq_true rfl) dX10_lend_87 rfl (fun v h42 hq => ?_)
          obtain ⟨r41, rfl, hw⟩ := hq
          refine G.cse (cs' := (0, 0)) rfl ?_
          show GZ _ _ _ _ _ _ _ 90 _ (.int r41 :: []) _ _
          exact G_ireturn rfl dX10_lend_90 ⟨_, rfl, wp_ret hw⟩
        · have hw := hw.1 c26
          refine G_iconst (v := (-1 : Int32)) dX10_lend_56 (by decide) ?_
          exact G_ireturn rfl dX10_lend_57 ⟨_, rfl, wp_ret hw⟩
      · have hw := hw.1 c18
        refine G_iconst (v := (-1 : Int32)) dX10_lend_36 (by decide) ?_
        exact G_ireturn rfl dX10_lend_37 ⟨_, rfl, wp_ret hw⟩
set_option maxHeartbeats 4000000 in
set_option maxRecDepth 100000 in
theorem f_X6_sootOf_26_ok {Γ : GX} (hs : SF Γ) {N : Nat} (s0 : Int32) (h : PH) (Q : Int32 → PH → Prop) (hw : wp (f_X6_sootOf_26 N s0 h) Q) : G Γ yX6_sootOf cX6_sootOf 5 (some .int) (3, 0, 0) 26 [none, none, none, none, none] [.int s0] h (0, 0) (q_i Q) := by
  unfold f_X6_sootOf_26 at hw
  refine G_istore (lv' := [none, none, none, none, some (.int s0)]) dX6_sootOf_26 (Nat.le_of_ble_eq_true rfl) rfl ?_
  refine G_iload dX6_sootOf_28 rfl ?_
  refine G_sipush (v := (999 : Int32)) dX6_sootOf_30 (by decide) ?_
  refine G_callSN (As := [.int s0, .int (999 : Int32)]) (s_X10_within hs s0 (999 : Int32) h _ (wp_cl hw)) ca_X10_within w_991 w_990 (Nat.le_of_ble_eq_true rfl) (Nat.le_of_ble_eq_true rfl) rfl (Nat.le_of_ble_eq_true rfl) (Nat.le_of_ble_eq_true rfl) (Nat.le_of_ble_eq_true rfl) dX6_sootOf_33 rfl (fun v h2 hq => ?_)
  obtain ⟨r1, rfl, hw⟩ := hq
  refine G.cse (cs' := (0, 0)) rfl ?_
  show GZ _ _ _ _ _ _ _ 36 _ (.int r1 :: []) _ _
  exact G_ireturn rfl dX6_sootOf_36 ⟨_, rfl, wp_ret hw⟩
set_option maxHeartbeats 4000000 in
set_option maxRecDepth 100000 in
theorem s_X6_sootOf {Γ : GX} (hs : SF Γ) {N : Nat} (l0 : Nat) (l1 : Int32) (l2 : Int32) (l3 : Int32) (h : PH) (Q : Int32 → PH → Prop) (hw : wp (f_X6_sootOf N l0 l1 l2 l3 h) Q) : Spec Γ yX6_sootOf cX6_sootOf 5 (some .int) (3, 0, 0) [.ref l0, .int l1, .int l2, .int l3] h (q_i Q) := by
  refine Spec.of (by decide) (Nat.le_of_ble_eq_true rfl) [some (.ref l0), some (.int l1), some (.int l2), some (.int l3), none] rfl ?_
  unfold f_X6_sootOf at hw
  refine G_aload_n dX6_sootOf_0 rfl ?_
  obtain ⟨c1, hw⟩ := wp_ck hw
  refine G_getR fl_X6_soots w_463 dX6_sootOf_1 c1 ?_
  obtain ⟨a2, ea2, hw⟩ := wp_rq hw
  refine G.sure ea2 ?_
  obtain ⟨c5, hw⟩ := wp_ck hw
  refine G_callV (As := []) (s_X1_isTold hs a2 h _ (wp_cl hw)) ca_X1_isTold w_837 w_838 (ci := 1) rfl (by decide) w_982 c5 (Nat.le_of_ble_eq_true rfl) (Nat.le_of_ble_eq_true rfl) rfl (Nat.le_of_ble_eq_true rfl) (Nat.le_of_ble_eq_true rfl) (Nat.le_of_ble_eq_true rfl) dX6_sootOf_4 rfl (fun v h4 hq => ?_)
  obtain ⟨r3, rfl, hw⟩ := hq
  refine G.cse (cs' := (0, 0)) rfl ?_
  show GZ _ _ _ _ _ _ _ 7 _ (.int r3 :: []) _ _
  have hw := wp_if hw
  refine G_if_eq (tgt := 25) dX6_sootOf_7 rfl (fun c6 => ?_) (fun c6 => ?_)
  · have hw := hw.1 c6
    refine G_iload_n dX6_sootOf_25 rfl ?_
    refine G.less [none, none, none, none, none] trivial ?_
    exact f_X6_sootOf_26_ok hs _ h4 Q hw
  · have hw := hw.2 c6
    refine G_aload_n dX6_sootOf_10 rfl ?_
    obtain ⟨c7, hw⟩ := wp_ck hw
    refine G_getR fl_X6_soots w_463 dX6_sootOf_11 c7 ?_
    obtain ⟨a8, ea8, hw⟩ := wp_rq hw
    refine G.sure ea8 ?_
    refine G_iload_n dX6_sootOf_14 rfl ?_
    refine G_iload_n dX6_sootOf_15 rfl ?_
    refine G_iload_n dX6_sootOf_16 rfl ?_
    refine G_iconst (v := (0 : Int32)) dX6_sootOf_17 (by decide) ?_
    refine G_iconst (v := (0 : Int32)) dX6_sootOf_18 (by decide) ?_
    obtain ⟨c11, hw⟩ := wp_ck hw
    refine G_callV (As := [.int l1, .int l2, .int l3, .int (0 : Int32), .int (0 : Int32)]) (s_X1_worth hs a8 l1 l2 l3 (0 : Int32) (0 : Int32) h4 _ (wp_cl hw)) ca_X1_worth w_984 w_985 (ci := 1) rfl (by decide) w_983 c11 (Nat.le_of_ble_eq_true rfl) (Nat.le_of_ble_eq_true rfl) rfl (Nat.le_of_ble_eq_true rfl) (Nat.le_of_ble_eq_true rfl) (Nat.le_of_ble_eq_true rfl) dX6_sootOf_19 rfl (fun v h10 hq => ?_)
    obtain ⟨r9, rfl, hw⟩ := hq
    refine G.cse (cs' := (0, 0)) rfl ?_
    show GZ _ _ _ _ _ _ _ 22 _ (.int r9 :: []) _ _
    refine G_goto (tgt := 26) dX6_sootOf_22 rfl ?_
    refine G.less [none, none, none, none, none] trivial ?_
    exact f_X6_sootOf_26_ok hs _ h10 Q hw
set_option maxHeartbeats 4000000 in
set_option maxRecDepth 100000 in
theorem s_X4_sootBy {Γ : GX} (hs : SF Γ) {N : Nat} (l0 : Nat) (l1 : Nat) (l2 : Int32) (h : PH) (Q : Int32 → PH → Prop) (hw : wp (f_X4_sootBy N l0 l1 l2 h) Q) : Spec Γ yX4_sootBy cX4_sootBy 5 (some .int) (5, 0, 0) [.ref l0, .ref l1, .int l2] h (q_i Q) := by
  refine Spec.of (by decide) (Nat.le_of_ble_eq_true rfl) [some (.ref l0), some (.ref l1), some (.int l2), none, none] rfl ?_
  unfold f_X4_sootBy at hw
  refine G_aload_n dX4_sootBy_0 rfl ?_
  refine G_aload_n dX4_sootBy_1 rfl ?_
  refine G_iload_n dX4_sootBy_2 rfl ?_
  refine G_iconst (v := (0 : Int32)) dX4_sootBy_3 (by decide) ?_
  obtain ⟨c3, hw⟩ := wp_ck hw
  refine G_callV (As := [.ref l1, .int l2, .int (0 : Int32)]) (s_X4_smoke hs l0 l1 l2 (0 : Int32) h _ (wp_cl hw)) ca_X4_smoke w_971 w_972 (ci := 4) rfl (by decide) w_1001 c3 (Nat.le_of_ble_eq_true rfl) (Nat.le_of_ble_eq_true rfl) rfl (Nat.le_of_ble_eq_true rfl) (Nat.le_of_ble_eq_true rfl) (Nat.le_of_ble_eq_true rfl) dX4_sootBy_4 rfl (fun v h2 hq => ?_)
  obtain ⟨r1, rfl, hw⟩ := hq
  refine G.cse (cs' := (0, 0)) rfl ?_
  show GZ _ _ _ _ _ _ _ 7 _ (.int r1 :: []) _ _
  refine G_istore_n (lv' := [some (.ref l0), some (.ref l1), some (.int l2), some (.int r1), none]) dX4_sootBy_7 (Nat.le_of_ble_eq_true rfl) rfl ?_
  refine G_aload_n dX4_sootBy_8 rfl ?_
  refine G_aload_n dX4_sootBy_9 rfl ?_
  refine G_iload_n dX4_sootBy_10 rfl ?_
  refine G_iconst (v := (1 : Int32)) dX4_sootBy_11 (by decide) ?_
  obtain ⟨c6, hw⟩ := wp_ck hw
  refine G_callV (As := [.ref l1, .int l2, .int (1 : Int32)]) (s_X4_smoke hs l0 l1 l2 (1 : Int32) h2 _ (wp_cl hw)) ca_X4_smoke w_971 w_972 (ci := 4) rfl (by decide) w_1001 c6 (Nat.le_of_ble_eq_true rfl) (Nat.le_of_ble_eq_true rfl) rfl (Nat.le_of_ble_eq_true rfl) (Nat.le_of_ble_eq_true rfl) (Nat.le_of_ble_eq_true rfl) dX4_sootBy_12 rfl (fun v h5 hq => ?_)
  obtain ⟨r4, rfl, hw⟩ := hq
  refine G.cse (cs' := (0, 0)) rfl ?_
  show GZ _ _ _ _ _ _ _ 15 _ (.int r4 :: []) _ _
  refine G_istore (lv' := [some (.ref l0), some (.ref l1), some (.int l2), some (.int r1), some (.int r4)]) dX4_sootBy_15 (Nat.le_of_ble_eq_true rfl) rfl ?_
  refine G_aload_n dX4_sootBy_17 rfl ?_
  refine G_iload_n dX4_sootBy_18 rfl ?_
  refine G_iload dX4_sootBy_19 rfl ?_
  refine G_aload_n dX4_sootBy_21 rfl ?_
  refine G_aload_n dX4_sootBy_22 rfl ?_
  obtain ⟨c7, hw⟩ := wp_ck hw
  refine G_getI fl_X4_hour w_216 dX4_sootBy_23 c7 ?_
  obtain ⟨c10, hw⟩ := wp_ck hw
  refine G_callV (As := [.int (hI h5 l0 0)]) (s_X6_windAt hs l1 (hI h5 l0 0) h5 _ (wp_cl hw)) ca_X6_windAt w_975 w_976 (ci := 6) rfl (by decide) w_974 c10 (Nat.le_of_ble_eq_true rfl) (Nat.le_of_ble_eq_true rfl) rfl (Nat.le_of_ble_eq_true rfl) (Nat.le_of_ble_eq_true rfl) (Nat.le_of_ble_eq_true rfl) dX4_sootBy_26 rfl (fun v h9 hq => ?_)
  obtain ⟨r8, rfl, hw⟩ := hq
  refine G.cse (cs' := (0, 0)) rfl ?_
  show GZ _ _ _ _ _ _ _ 29 _ (.int r8 :: [.int r4, .int r1, .ref l1]) _ _
  obtain ⟨c13, hw⟩ := wp_ck hw
  refine G_callV (As := [.int r1, .int r4, .int r8]) (s_X6_sootOf hs l1 r1 r4 r8 h9 _ (wp_cl hw)) ca_X6_sootOf w_1067 w_1068 (ci := 6) rfl (by decide) w_1066 c13 (Nat.le_of_ble_eq_true rfl) (Nat.le_of_ble_eq_true rfl) rfl (Nat.le_of_ble_eq_true rfl) (Nat.le_of_ble_eq_true rfl) (Nat.le_of_ble_eq_true rfl) dX4_sootBy_29 rfl (fun v h12 hq => ?_)
  obtain ⟨r11, rfl, hw⟩ := hq
  refine G.cse (cs' := (0, 0)) rfl ?_
  show GZ _ _ _ _ _ _ _ 32 _ (.int r11 :: []) _ _
  exact G_ireturn rfl dX4_sootBy_32 ⟨_, rfl, wp_ret hw⟩
set_option maxHeartbeats 4000000 in
set_option maxRecDepth 100000 in
theorem f_X4_pass_93_ok {Γ : GX} (hs : SF Γ) {N : Nat} {K_51 : Nat → Int32 → Int32 → PH → Option (Int32 × PH)} (hK_51 : ∀ (l0 : Nat) (l2 : Int32) (l3 : Int32) (h : PH) (Q : Int32 → PH → Prop), wp (K_51 l0 l2 l3 h) Q → G Γ yX4_pass cX4_pass 4 (some .int) (6, 0, 0) 51 [some (.ref l0), none, some (.int l2), some (.int l3)] [] h (0, 0) (q_i Q)) (l0 : Nat) (l2 : Int32) (l3 : Int32) (h : PH) (Q : Int32 → PH → Prop) (hw : wp (f_X4_pass_93 N K_51 l0 l2 l3 h) Q) : G Γ yX4_pass cX4_pass 4 (some .int) (6, 0, 0) 93 [some (.ref l0), none, some (.int l2), some (.int l3)] [] h (0, 0) (q_i Q) := by
  unfold f_X4_pass_93 at hw
  obtain ⟨v1, ev1⟩ : ∃ z : Int32, z = l3 + (1 : Int32) := ⟨_, rfl⟩
  have hw := wp_bd hw v1 ev1
  refine G_iinc (v := v1) (lv' := [some (.ref l0), none, some (.int l2), some (.int v1)]) dX4_pass_93 rfl (by rw [ev1]; rfl) (Nat.le_of_ble_eq_true rfl) rfl ?_
  refine G_goto (tgt := 51) dX4_pass_96 rfl ?_
  refine G.less [some (.ref l0), none, some (.int l2), some (.int v1)] ⟨rfl, ⟨rfl, ⟨rfl, trivial⟩⟩⟩ ?_
  exact hK_51 _ _ _ h Q hw
set_option maxHeartbeats 4000000 in
set_option maxRecDepth 100000 in
theorem f_X4_pass_51_bok {Γ : GX} (hs : SF Γ) {N : Nat} {K_51 : Nat → Int32 → Int32 → PH → Option (Int32 × PH)} (hK_51 : ∀ (l0 : Nat) (l2 : Int32) (l3 : Int32) (h : PH) (Q : Int32 → PH → Prop), wp (K_51 l0 l2 l3 h) Q → G Γ yX4_pass cX4_pass 4 (some .int) (6, 0, 0) 51 [some (.ref l0), none, some (.int l2), some (.int l3)] [] h (0, 0) (q_i Q)) (l0 : Nat) (l2 : Int32) (l3 : Int32) (h : PH) (Q : Int32 → PH → Prop) (hw : wp (f_X4_pass_51_b N K_51 l0 l2 l3 h) Q) : G Γ yX4_pass cX4_pass 4 (some .int) (6, 0, 0) 51 [some (.ref l0), none, some (.int l2), some (.int l3)] [] h (0, 0) (q_i Q) := by
  unfold f_X4_pass_51_b at hw
  refine G_iload_n dX4_pass_51 rfl ?_
  refine G_iconst (v := (4 : Int32)) dX4_pass_52 (by decide) ?_
  have hw := wp_if hw
  refine G_icmp_ge (tgt := 99) dX4_pass_53 rfl (fun c1 => ?_) (fun c1 => ?_)
  · have hw := hw.1 c1
    refine G_aload_n dX4_pass_99 rfl ?_
    refine G_dup dX4_pass_100 rfl ?_
    obtain ⟨c2, hw⟩ := wp_ck hw
    refine G_getI fl_X4_hour w_216 dX4_pass_101 c2 ?_
    refine G_iconst (v := (1 : Int32)) dX4_pass_104 (by decide) ?_
    refine G_iadd dX4_pass_105 ?_
    refine G_putI fl_X4_hour w_216 dX4_pass_106 c2 ?_
    refine G.nmh fun h3 eh3 => ?_
    have hw := wp_bd hw h3 eh3
    refine G_iload_n dX4_pass_109 rfl ?_
    exact G_ireturn rfl dX4_pass_110 ⟨_, rfl, wp_ret hw⟩
  · have hw := hw.2 c1
    refine G_aload_n dX4_pass_56 rfl ?_
    refine G_iload_n dX4_pass_57 rfl ?_
    obtain ⟨c6, hw⟩ := wp_ck hw
    refine G_callV (As := [.int l3]) (s_X4_burns hs l0 l3 h _ (wp_cl hw)) ca_X4_burns w_1024 w_1025 (ci := 4) rfl (by decide) w_1023 c6 (Nat.le_of_ble_eq_true rfl) (Nat.le_of_ble_eq_true rfl) rfl (Nat.le_of_ble_eq_true rfl) (Nat.le_of_ble_eq_true rfl) (Nat.le_of_ble_eq_true rfl) dX4_pass_58 rfl (fun v h5 hq => ?_)
    obtain ⟨r4, rfl, hw⟩ := hq
    refine G.cse (cs' := (0, 0)) rfl ?_
    show GZ _ _ _ _ _ _ _ 61 _ (.int r4 :: []) _ _
    have hw := wp_if hw
    refine G_if_eq (tgt := 93) dX4_pass_61 rfl (fun c7 => ?_) (fun c7 => ?_)
    · have hw := hw.1 c7
      refine G.less [some (.ref l0), none, some (.int l2), some (.int l3)] ⟨rfl, ⟨rfl, ⟨rfl, trivial⟩⟩⟩ ?_
      exact f_X4_pass_93_ok hs hK_51 _ _ _ h5 Q hw
    · have hw := hw.2 c7
      refine G_aload_n dX4_pass_64 rfl ?_
      obtain ⟨c8, hw⟩ := wp_ck hw
      refine G_getR fl_X4_left w_224 dX4_pass_65 c8 ?_
      obtain ⟨a9, ea9, hw⟩ := wp_rq hw
      refine G.sure ea9 ?_
      refine G_iload_n dX4_pass_68 rfl ?_
      refine G_dup2 dX4_pass_69 rfl rfl ?_
      obtain ⟨c10, hw⟩ := wp_ck hw
      obtain ⟨c11, hw⟩ := wp_ck hw
      refine G_iaload dX4_pass_70 c10 c11 ?_
      refine G_iconst (v := (1 : Int32)) dX4_pass_71 (by decide) ?_
      refine G_isub dX4_pass_72 ?_
      refine G_iastore dX4_pass_73 c10 c11 ?_
      refine G.nmh fun h12 eh12 => ?_
      have hw := wp_bd hw h12 eh12
      refine G_aload_n dX4_pass_74 rfl ?_
      obtain ⟨c13, hw⟩ := wp_ck hw
      refine G_getR fl_X4_left w_224 dX4_pass_75 c13 ?_
      obtain ⟨a14, ea14, hw⟩ := wp_rq hw
      refine G.sure ea14 ?_
      refine G_iload_n dX4_pass_78 rfl ?_
      obtain ⟨c15, hw⟩ := wp_ck hw
      obtain ⟨c16, hw⟩ := wp_ck hw
      refine G_iaload dX4_pass_79 c15 c16 ?_
      have hw := wp_if hw
      refine G_if_ne (tgt := 93) dX4_pass_80 rfl (fun c17 => ?_) (fun c17 => ?_)
      · have hw := hw.2 c17
        refine G.less [some (.ref l0), none, some (.int l2), some (.int l3)] ⟨rfl, ⟨rfl, ⟨rfl, trivial⟩⟩⟩ ?_
        exact f_X4_pass_93_ok hs hK_51 _ _ _ h12 Q hw
      · have hw := hw.1 c17
        refine G_aload_n dX4_pass_83 rfl ?_
        refine G_getR fl_X4_fuel w_221 dX4_pass_84 c13 ?_
        obtain ⟨a18, ea18, hw⟩ := wp_rq hw
        refine G.sure ea18 ?_
        refine G_iload_n dX4_pass_87 rfl ?_
        refine G_iconst (v := (-1 : Int32)) dX4_pass_88 (by decide) ?_
        obtain ⟨c19, hw⟩ := wp_ck hw
        obtain ⟨c20, hw⟩ := wp_ck hw
        refine G_iastore dX4_pass_89 c19 c20 ?_
        refine G.nmh fun h21 eh21 => ?_
        have hw := wp_bd hw h21 eh21
        obtain ⟨v22, ev22⟩ : ∃ z : Int32, z = l2 + (1 : Int32) := ⟨_, rfl⟩
        have hw := wp_bd hw v22 ev22
        refine G_iinc (v := v22) (lv' := [some (.ref l0), none, some (.int v22), some (.int l3)]) dX4_pass_90 rfl (by rw [ev22]; rfl) (Nat.le_of_ble_eq_true rfl) rfl ?_
        refine G.less [some (.ref l0), none, some (.int v22), some (.int l3)] ⟨rfl, ⟨rfl, ⟨rfl, trivial⟩⟩⟩ ?_
        exact f_X4_pass_93_ok hs hK_51 _ _ _ h21 Q hw
theorem f_X4_pass_51_ok {Γ : GX} (hs : SF Γ) {N : Nat} : ∀ (n : Nat) (l0 : Nat) (l2 : Int32) (l3 : Int32) (h : PH) (Q : Int32 → PH → Prop), wp (f_X4_pass_51 N n l0 l2 l3 h) Q → G Γ yX4_pass cX4_pass 4 (some .int) (6, 0, 0) 51 [some (.ref l0), none, some (.int l2), some (.int l3)] [] h (0, 0) (q_i Q)
  | 0, _, _, _, _, Q, hw => (wp_no hw).elim
  | n + 1, l0, l2, l3, h, Q, hw => f_X4_pass_51_bok (N := N) hs (f_X4_pass_51_ok (N := N) hs n) l0 l2 l3 h Q hw
set_option maxHeartbeats 4000000 in
set_option maxRecDepth 100000 in
theorem f_X4_pass_2_bok {Γ : GX} (hs : SF Γ) {N : Nat} {K_2 : Nat → Nat → Int32 → PH → Option (Int32 × PH)} (hK_2 : ∀ (l0 : Nat) (l1 : Nat) (l2 : Int32) (h : PH) (Q : Int32 → PH → Prop), wp (K_2 l0 l1 l2 h) Q → G Γ yX4_pass cX4_pass 4 (some .int) (6, 0, 0) 2 [some (.ref l0), some (.ref l1), some (.int l2), none] [] h (0, 0) (q_i Q)) (l0 : Nat) (l1 : Nat) (l2 : Int32) (h : PH) (Q : Int32 → PH → Prop) (hw : wp (f_X4_pass_2_b N K_2 l0 l1 l2 h) Q) : G Γ yX4_pass cX4_pass 4 (some .int) (6, 0, 0) 2 [some (.ref l0), some (.ref l1), some (.int l2), none] [] h (0, 0) (q_i Q) := by
  unfold f_X4_pass_2_b at hw
  refine G_iload_n dX4_pass_2 rfl ?_
  refine G_aload_n dX4_pass_3 rfl ?_
  obtain ⟨c1, hw⟩ := wp_ck hw
  refine G_getNR fl_X6_many w_430 dX4_pass_4 c1 ?_
  obtain ⟨a2, ea2, hw⟩ := wp_rq hw
  refine G.sure ea2 ?_
  refine G_iconst (v := (1 : Int32)) dX4_pass_7 (by decide) ?_
  obtain ⟨c3, hw⟩ := wp_ck hw
  obtain ⟨c4, hw⟩ := wp_ck hw
  refine G_ialoadK (k := 1) dX4_pass_8 c3 (by decide) rfl c4 ?_
  have hw := wp_if hw
  refine G_icmp_ge (tgt := 47) dX4_pass_9 rfl (fun c5 => ?_) (fun c5 => ?_)
  · have hw := hw.1 c5
    refine G_iconst (v := (0 : Int32)) dX4_pass_47 (by decide) ?_
    refine G_istore_n (lv' := [some (.ref l0), some (.ref l1), some (.int (0 : Int32)), none]) dX4_pass_48 (Nat.le_of_ble_eq_true rfl) rfl ?_
    refine G_iconst (v := (0 : Int32)) dX4_pass_49 (by decide) ?_
    refine G_istore_n (lv' := [some (.ref l0), some (.ref l1), some (.int (0 : Int32)), some (.int (0 : Int32))]) dX4_pass_50 (Nat.le_of_ble_eq_true rfl) rfl ?_
    refine G.less [some (.ref l0), none, some (.int (0 : Int32)), some (.int (0 : Int32))] ⟨rfl, ⟨rfl, ⟨rfl, trivial⟩⟩⟩ ?_
    exact f_X4_pass_51_ok hs N _ _ _ h Q hw
  · have hw := hw.2 c5
    refine G_aload_n dX4_pass_12 rfl ?_
    obtain ⟨c6, hw⟩ := wp_ck hw
    refine G_getR fl_X4_soot w_227 dX4_pass_13 c6 ?_
    obtain ⟨a7, ea7, hw⟩ := wp_rq hw
    refine G.sure ea7 ?_
    refine G_iload_n dX4_pass_16 rfl ?_
    refine G_aload_n dX4_pass_17 rfl ?_
    refine G_getR fl_X4_soot w_227 dX4_pass_18 c6 ?_
    obtain ⟨a8, ea8, hw⟩ := wp_rq hw
    refine G.sure ea8 ?_
    refine G_iload_n dX4_pass_21 rfl ?_
    obtain ⟨c9, hw⟩ := wp_ck hw
    obtain ⟨c10, hw⟩ := wp_ck hw
    refine G_iaload dX4_pass_22 c9 c10 ?_
    refine G_aload_n dX4_pass_23 rfl ?_
    refine G_aload_n dX4_pass_24 rfl ?_
    refine G_aload_n dX4_pass_25 rfl ?_
    refine G_iload_n dX4_pass_26 rfl ?_
    refine G_callV (As := [.int l2]) (s_X6_housesAt hs l1 l2 h _ (wp_cl hw)) ca_X6_housesAt w_967 w_968 (ci := 6) rfl (by decide) w_1000 c1 (Nat.le_of_ble_eq_true rfl) (Nat.le_of_ble_eq_true rfl) rfl (Nat.le_of_ble_eq_true rfl) (Nat.le_of_ble_eq_true rfl) (Nat.le_of_ble_eq_true rfl) dX4_pass_27 rfl (fun v h12 hq => ?_)
    obtain ⟨r11, rfl, hw⟩ := hq
    refine G.cse (cs' := (0, 0)) rfl ?_
    show GZ _ _ _ _ _ _ _ 30 _ (.int r11 :: [.ref l1, .ref l0, .int (hI h a8 (ix l2)), .int l2, .ref a7]) _ _
    obtain ⟨c15, hw⟩ := wp_ck hw
    refine G_callV (As := [.ref l1, .int r11]) (s_X4_sootBy hs l0 l1 r11 h12 _ (wp_cl hw)) ca_X4_sootBy w_1063 w_1064 (ci := 4) rfl (by decide) w_1062 c15 (Nat.le_of_ble_eq_true rfl) (Nat.le_of_ble_eq_true rfl) rfl (Nat.le_of_ble_eq_true rfl) (Nat.le_of_ble_eq_true rfl) (Nat.le_of_ble_eq_true rfl) dX4_pass_30 rfl (fun v h14 hq => ?_)
    obtain ⟨r13, rfl, hw⟩ := hq
    refine G.cse (cs' := (0, 0)) rfl ?_
    show GZ _ _ _ _ _ _ _ 33 _ (.int r13 :: [.int (hI h a8 (ix l2)), .int l2, .ref a7]) _ _
    refine G_iadd dX4_pass_33 ?_
    refine G_sipush (v := (9999 : Int32)) dX4_pass_34 (by decide) ?_
    refine G_mmin w_995 w_642 w_139 w_643 dX4_pass_37 (Nat.le_of_ble_eq_true rfl) (Nat.le_of_ble_eq_true rfl) (Nat.le_of_ble_eq_true rfl) (Nat.le_of_ble_eq_true rfl) ?_
    obtain ⟨c16, hw⟩ := wp_ck hw
    obtain ⟨c17, hw⟩ := wp_ck hw
    refine G_iastore dX4_pass_40 c16 c17 ?_
    refine G.nmh fun h18 eh18 => ?_
    have hw := wp_bd hw h18 eh18
    obtain ⟨v19, ev19⟩ : ∃ z : Int32, z = l2 + (1 : Int32) := ⟨_, rfl⟩
    have hw := wp_bd hw v19 ev19
    refine G_iinc (v := v19) (lv' := [some (.ref l0), some (.ref l1), some (.int v19), none]) dX4_pass_41 rfl (by rw [ev19]; rfl) (Nat.le_of_ble_eq_true rfl) rfl ?_
    refine G_goto (tgt := 2) dX4_pass_44 rfl ?_
    refine G.less [some (.ref l0), some (.ref l1), some (.int v19), none] ⟨rfl, ⟨rfl, ⟨rfl, trivial⟩⟩⟩ ?_
    exact hK_2 _ _ _ h18 Q hw
theorem f_X4_pass_2_ok {Γ : GX} (hs : SF Γ) {N : Nat} : ∀ (n : Nat) (l0 : Nat) (l1 : Nat) (l2 : Int32) (h : PH) (Q : Int32 → PH → Prop), wp (f_X4_pass_2 N n l0 l1 l2 h) Q → G Γ yX4_pass cX4_pass 4 (some .int) (6, 0, 0) 2 [some (.ref l0), some (.ref l1), some (.int l2), none] [] h (0, 0) (q_i Q)
  | 0, _, _, _, _, Q, hw => (wp_no hw).elim
  | n + 1, l0, l1, l2, h, Q, hw => f_X4_pass_2_bok (N := N) hs (f_X4_pass_2_ok (N := N) hs n) l0 l1 l2 h Q hw
set_option maxHeartbeats 4000000 in
set_option maxRecDepth 100000 in
theorem s_X4_pass {Γ : GX} (hs : SF Γ) {N : Nat} (l0 : Nat) (l1 : Nat) (h : PH) (Q : Int32 → PH → Prop) (hw : wp (f_X4_pass N l0 l1 h) Q) : Spec Γ yX4_pass cX4_pass 4 (some .int) (6, 0, 0) [.ref l0, .ref l1] h (q_i Q) := by
  refine Spec.of (by decide) (Nat.le_of_ble_eq_true rfl) [some (.ref l0), some (.ref l1), none, none] rfl ?_
  unfold f_X4_pass at hw
  refine G_iconst (v := (0 : Int32)) dX4_pass_0 (by decide) ?_
  refine G_istore_n (lv' := [some (.ref l0), some (.ref l1), some (.int (0 : Int32)), none]) dX4_pass_1 (Nat.le_of_ble_eq_true rfl) rfl ?_
  refine G.less [some (.ref l0), some (.ref l1), some (.int (0 : Int32)), none] ⟨rfl, ⟨rfl, ⟨rfl, trivial⟩⟩⟩ ?_
  exact f_X4_pass_2_ok hs N _ _ _ h Q hw
set_option maxHeartbeats 4000000 in
set_option maxRecDepth 100000 in
theorem s_X10_hour {Γ : GX} (hs : SF Γ) {N : Nat} (l0 : Nat) (h : PH) (Q : Int32 → PH → Prop) (hw : wp (f_X10_hour N l0 h) Q) : Spec Γ yX10_hour cX10_hour 1 (some .int) (7, 0, 0) [.ref l0] h (q_i Q) := by
  refine Spec.of (by decide) (Nat.le_of_ble_eq_true rfl) [some (.ref l0)] rfl ?_
  unfold f_X10_hour at hw
  refine G_aload_n dX10_hour_0 rfl ?_
  obtain ⟨c3, hw⟩ := wp_ck hw
  refine G_callV (As := []) (s_X10_remember hs l0 h _ (wp_cl hw)) ca_X10_remember w_1030 w_23 (ci := 9) rfl (by decide) w_1028 c3 (Nat.le_of_ble_eq_true rfl) (Nat.le_of_ble_eq_true rfl) rfl (Nat.le_of_ble_eq_true rfl) (Nat.le_of_ble_eq_true rfl) (Nat.le_of_ble_eq_true rfl) dX10_hour_1 rfl (fun v h2 hq => ?_)
  obtain ⟨rfl, hw⟩ := hq
  refine G.cse (cs' := (0, 0)) rfl ?_
  show GZ _ _ _ _ _ _ _ 4 _ [] _ _
  refine G_aload_n dX10_hour_4 rfl ?_
  obtain ⟨c4, hw⟩ := wp_ck hw
  refine G_getR fl_X10_now w_498 dX10_hour_5 c4 ?_
  obtain ⟨a5, ea5, hw⟩ := wp_rq hw
  refine G.sure ea5 ?_
  refine G_iconst (v := (0 : Int32)) dX10_hour_8 (by decide) ?_
  obtain ⟨c6, hw⟩ := wp_ck hw
  refine G_putNI fl_X2_reads w_264 dX10_hour_9 c6 ?_
  refine G.nmh fun h7 eh7 => ?_
  have hw := wp_bd hw h7 eh7
  refine G_aload_n dX10_hour_12 rfl ?_
  obtain ⟨c8, hw⟩ := wp_ck hw
  refine G_getR fl_X10_now w_498 dX10_hour_13 c8 ?_
  obtain ⟨a9, ea9, hw⟩ := wp_rq hw
  refine G.sure ea9 ?_
  obtain ⟨c10, hw⟩ := wp_ck hw
  refine G_getNR fl_X2_state w_257 dX10_hour_16 c10 ?_
  obtain ⟨a11, ea11, hw⟩ := wp_rq hw
  refine G.sure ea11 ?_
  refine G_aload_n dX10_hour_19 rfl ?_
  refine G_getR fl_X10_valley w_507 dX10_hour_20 c8 ?_
  obtain ⟨a12, ea12, hw⟩ := wp_rq hw
  refine G.sure ea12 ?_
  obtain ⟨c15, hw⟩ := wp_ck hw
  refine G_callV (As := [.ref a12]) (s_X4_pass hs a11 a12 h7 _ (wp_cl hw)) ca_X4_pass w_1059 w_1060 (ci := 4) rfl (by decide) w_1058 c15 (Nat.le_of_ble_eq_true rfl) (Nat.le_of_ble_eq_true rfl) rfl (Nat.le_of_ble_eq_true rfl) (Nat.le_of_ble_eq_true rfl) (Nat.le_of_ble_eq_true rfl) dX10_hour_23 rfl (fun v h14 hq => ?_)
  obtain ⟨r13, rfl, hw⟩ := hq
  refine G.cse (cs' := (0, 0)) rfl ?_
  show GZ _ _ _ _ _ _ _ 26 _ (.int r13 :: []) _ _
  exact G_ireturn rfl dX10_hour_26 ⟨_, rfl, wp_ret hw⟩
set_option maxHeartbeats 4000000 in
set_option maxRecDepth 100000 in
theorem s_X10_undo {Γ : GX} (hs : SF Γ) {N : Nat} (l0 : Nat) (h : PH) (Q : Int32 → PH → Prop) (hw : wp (f_X10_undo N l0 h) Q) : Spec Γ yX10_undo cX10_undo 1 (some .boolean) (3, 0, 0) [.ref l0] h (q_i Q) := by
  refine Spec.of (by decide) (Nat.le_of_ble_eq_true rfl) [some (.ref l0)] rfl ?_
  unfold f_X10_undo at hw
  refine G_aload_n dX10_undo_0 rfl ?_
  obtain ⟨c1, hw⟩ := wp_ck hw
  refine G_getI fl_X10_pastCount w_511 dX10_undo_1 c1 ?_
  refine G_iconst (v := (1 : Int32)) dX10_undo_4 (by decide) ?_
  have hw := wp_if hw
  refine G_icmp_ge (tgt := 10) dX10_undo_5 rfl (fun c2 => ?_) (fun c2 => ?_)
  · have hw := hw.1 c2
    refine G_aload_n dX10_undo_10 rfl ?_
    refine G_dup dX10_undo_11 rfl ?_
    refine G_getI fl_X10_pastCount w_511 dX10_undo_12 c1 ?_
    refine G_iconst (v := (1 : Int32)) dX10_undo_15 (by decide) ?_
    refine G_isub dX10_undo_16 ?_
    refine G_putI fl_X10_pastCount w_511 dX10_undo_17 c1 ?_
    refine G.nmh fun h3 eh3 => ?_
    have hw := wp_bd hw h3 eh3
    refine G_aload_n dX10_undo_20 rfl ?_
    refine G_aload_n dX10_undo_21 rfl ?_
    obtain ⟨c4, hw⟩ := wp_ck hw
    refine G_getI fl_X10_pastNext w_510 dX10_undo_22 c4 ?_
    refine G_bipush (v := (16 : Int32)) dX10_undo_25 (by decide) ?_
    refine G_iadd dX10_undo_27 ?_
    refine G_iconst (v := (1 : Int32)) dX10_undo_28 (by decide) ?_
    refine G_isub dX10_undo_29 ?_
    refine G_bipush (v := (16 : Int32)) dX10_undo_30 (by decide) ?_
    refine G_irem dX10_undo_32 (by decide) ?_
    refine G_putI fl_X10_pastNext w_510 dX10_undo_33 c4 ?_
    refine G.nmh fun h5 eh5 => ?_
    have hw := wp_bd hw h5 eh5
    refine G_aload_n dX10_undo_36 rfl ?_
    obtain ⟨c6, hw⟩ := wp_ck hw
    refine G_getR fl_X10_now w_498 dX10_undo_37 c6 ?_
    obtain ⟨a7, ea7, hw⟩ := wp_rq hw
    refine G.sure ea7 ?_
    obtain ⟨c8, hw⟩ := wp_ck hw
    refine G_getNR fl_X2_state w_257 dX10_undo_40 c8 ?_
    obtain ⟨a9, ea9, hw⟩ := wp_rq hw
    refine G.sure ea9 ?_
    refine G_aload_n dX10_undo_43 rfl ?_
    refine G_getR fl_X10_past w_500 dX10_undo_44 c6 ?_
    obtain ⟨a10, ea10, hw⟩ := wp_rq hw
    refine G.sure ea10 ?_
    refine G_aload_n dX10_undo_47 rfl ?_
    refine G_getI fl_X10_pastNext w_510 dX10_undo_48 c6 ?_
    obtain ⟨c11, hw⟩ := wp_ck hw
    obtain ⟨c12, hw⟩ := wp_ck hw
    refine G_aaload16 dX10_undo_51 c11 c12 ?_
    obtain ⟨a13, ea13, hw⟩ := wp_rq hw
    refine G.sure ea13 ?_
    obtain ⟨c16, hw⟩ := wp_ck hw
    refine G_callV (As := [.ref a13]) (s_X4_copy hs a9 a13 h5 _ (wp_cl hw)) ca_X4_copy w_1033 w_1034 (ci := 4) rfl (by decide) w_1032 c16 (Nat.le_of_ble_eq_true rfl) (Nat.le_of_ble_eq_true rfl) rfl (Nat.le_of_ble_eq_true rfl) (Nat.le_of_ble_eq_true rfl) (Nat.le_of_ble_eq_true rfl) dX10_undo_52 rfl (fun v h15 hq => ?_)
    obtain ⟨rfl, hw⟩ := hq
    refine G.cse (cs' := (0, 0)) rfl ?_
    show GZ _ _ _ _ _ _ _ 55 _ [] _ _
    refine G_aload_n dX10_undo_55 rfl ?_
    obtain ⟨c17, hw⟩ := wp_ck hw
    refine G_getR fl_X10_now w_498 dX10_undo_56 c17 ?_
    obtain ⟨a18, ea18, hw⟩ := wp_rq hw
    refine G.sure ea18 ?_
    refine G_iconst (v := (0 : Int32)) dX10_undo_59 (by decide) ?_
    obtain ⟨c19, hw⟩ := wp_ck hw
    refine G_putNI fl_X2_reads w_264 dX10_undo_60 c19 ?_
    refine G.nmh fun h20 eh20 => ?_
    have hw := wp_bd hw h20 eh20
    refine G_iconst (v := (1 : Int32)) dX10_undo_63 (by decide) ?_
    exact G_zreturn rfl dX10_undo_64 rfl ⟨_, rfl, wp_ret hw⟩
  · have hw := hw.2 c2
    refine G_iconst (v := (0 : Int32)) dX10_undo_8 (by decide) ?_
    exact G_zreturn rfl dX10_undo_9 rfl ⟨_, rfl, wp_ret hw⟩
set_option maxHeartbeats 4000000 in
set_option maxRecDepth 100000 in
theorem s_X0_isHour {Γ : GX} (hs : SF Γ) {N : Nat} (l0 : Nat) (l1 : Int32) (h : PH) (Q : Int32 → PH → Prop) (hw : wp (f_X0_isHour N l0 l1 h) Q) : Spec Γ yX0_isHour cX0_isHour 2 (some .boolean) (1, 0, 0) [.ref l0, .int l1] h (q_i Q) := by
  refine Spec.of (by decide) (Nat.le_of_ble_eq_true rfl) [some (.ref l0), some (.int l1)] rfl ?_
  unfold f_X0_isHour at hw
  refine G_iload_n dX0_isHour_0 rfl ?_
  have hw := wp_if hw
  refine G_if_lt (tgt := 28) dX0_isHour_1 rfl (fun c1 => ?_) (fun c1 => ?_)
  · have hw := hw.1 c1
    refine G_iconst (v := (0 : Int32)) dX0_isHour_28 (by decide) ?_
    exact G_zreturn rfl dX0_isHour_29 rfl ⟨_, rfl, wp_ret hw⟩
  · have hw := hw.2 c1
    refine G_iload_n dX0_isHour_4 rfl ?_
    refine G_aload_n dX0_isHour_5 rfl ?_
    obtain ⟨c2, hw⟩ := wp_ck hw
    refine G_getI fl_X0_lines w_248 dX0_isHour_6 c2 ?_
    have hw := wp_if hw
    refine G_icmp_ge (tgt := 28) dX0_isHour_9 rfl (fun c3 => ?_) (fun c3 => ?_)
    · have hw := hw.1 c3
      refine G_iconst (v := (0 : Int32)) dX0_isHour_28 (by decide) ?_
      exact G_zreturn rfl dX0_isHour_29 rfl ⟨_, rfl, wp_ret hw⟩
    · have hw := hw.2 c3
      refine G_aload_n dX0_isHour_12 rfl ?_
      refine G_getR fl_X0_cells w_247 dX0_isHour_13 c2 ?_
      obtain ⟨a4, ea4, hw⟩ := wp_rq hw
      refine G.sure ea4 ?_
      refine G_iload_n dX0_isHour_16 rfl ?_
      refine G_iconst (v := (5 : Int32)) dX0_isHour_17 (by decide) ?_
      refine G_imul dX0_isHour_18 ?_
      obtain ⟨c5, hw⟩ := wp_ck hw
      obtain ⟨c6, hw⟩ := wp_ck hw
      refine G_iaload dX0_isHour_19 c5 c6 ?_
      refine G_iconst (v := (2 : Int32)) dX0_isHour_20 (by decide) ?_
      have hw := wp_if hw
      refine G_icmp_ne (tgt := 28) dX0_isHour_21 rfl (fun c7 => ?_) (fun c7 => ?_)
      · have hw := hw.2 c7
        refine G_iconst (v := (0 : Int32)) dX0_isHour_28 (by decide) ?_
        exact G_zreturn rfl dX0_isHour_29 rfl ⟨_, rfl, wp_ret hw⟩
      · have hw := hw.1 c7
        refine G_iconst (v := (1 : Int32)) dX0_isHour_24 (by decide) ?_
        refine G_goto (tgt := 29) dX0_isHour_25 rfl ?_
        exact G_zreturn rfl dX0_isHour_29 rfl ⟨_, rfl, wp_ret hw⟩
set_option maxHeartbeats 4000000 in
set_option maxRecDepth 100000 in
theorem f_X4_signsRead_30_ok {Γ : GX} (hs : SF Γ) {N : Nat} {K_4 : Nat → Nat → Int32 → Int32 → PH → Option (Int32 × PH)} (hK_4 : ∀ (l0 : Nat) (l1 : Nat) (l2 : Int32) (l3 : Int32) (h : PH) (Q : Int32 → PH → Prop), wp (K_4 l0 l1 l2 l3 h) Q → G Γ yX4_signsRead cX4_signsRead 4 (some .int) (6, 0, 0) 4 [some (.ref l0), some (.ref l1), some (.int l2), some (.int l3)] [] h (0, 0) (q_i Q)) (s0 : Int32) (s1 : Int32) (l0 : Nat) (l1 : Nat) (l3 : Int32) (h : PH) (Q : Int32 → PH → Prop) (hw : wp (f_X4_signsRead_30 N K_4 s0 s1 l0 l1 l3 h) Q) : G Γ yX4_signsRead cX4_signsRead 4 (some .int) (6, 0, 0) 30 [some (.ref l0), some (.ref l1), none, some (.int l3)] [.int s0, .int s1] h (0, 0) (q_i Q) := by
  unfold f_X4_signsRead_30 at hw
  refine G_iadd dX4_signsRead_30 ?_
  refine G.topi fun v1 ev1 => ?_
  have hw := wp_bd hw v1 ev1
  refine G_istore_n (lv' := [some (.ref l0), some (.ref l1), some (.int v1), some (.int l3)]) dX4_signsRead_31 (Nat.le_of_ble_eq_true rfl) rfl ?_
  obtain ⟨v2, ev2⟩ : ∃ z : Int32, z = l3 + (1 : Int32) := ⟨_, rfl⟩
  have hw := wp_bd hw v2 ev2
  refine G_iinc (v := v2) (lv' := [some (.ref l0), some (.ref l1), some (.int v1), some (.int v2)]) dX4_signsRead_32 rfl (by rw [ev2]; rfl) (Nat.le_of_ble_eq_true rfl) rfl ?_
  refine G_goto (tgt := 4) dX4_signsRead_35 rfl ?_
  refine G.less [some (.ref l0), some (.ref l1), some (.int v1), some (.int v2)] ⟨rfl, ⟨rfl, ⟨rfl, ⟨rfl, trivial⟩⟩⟩⟩ ?_
  exact hK_4 _ _ _ _ h Q hw
set_option maxHeartbeats 4000000 in
set_option maxRecDepth 100000 in
theorem f_X4_signsRead_4_bok {Γ : GX} (hs : SF Γ) {N : Nat} {K_4 : Nat → Nat → Int32 → Int32 → PH → Option (Int32 × PH)} (hK_4 : ∀ (l0 : Nat) (l1 : Nat) (l2 : Int32) (l3 : Int32) (h : PH) (Q : Int32 → PH → Prop), wp (K_4 l0 l1 l2 l3 h) Q → G Γ yX4_signsRead cX4_signsRead 4 (some .int) (6, 0, 0) 4 [some (.ref l0), some (.ref l1), some (.int l2), some (.int l3)] [] h (0, 0) (q_i Q)) (l0 : Nat) (l1 : Nat) (l2 : Int32) (l3 : Int32) (h : PH) (Q : Int32 → PH → Prop) (hw : wp (f_X4_signsRead_4_b N K_4 l0 l1 l2 l3 h) Q) : G Γ yX4_signsRead cX4_signsRead 4 (some .int) (6, 0, 0) 4 [some (.ref l0), some (.ref l1), some (.int l2), some (.int l3)] [] h (0, 0) (q_i Q) := by
  unfold f_X4_signsRead_4_b at hw
  refine G_iload_n dX4_signsRead_4 rfl ?_
  refine G_aload_n dX4_signsRead_5 rfl ?_
  obtain ⟨c1, hw⟩ := wp_ck hw
  refine G_getNR fl_X6_many w_430 dX4_signsRead_6 c1 ?_
  obtain ⟨a2, ea2, hw⟩ := wp_rq hw
  refine G.sure ea2 ?_
  refine G_iconst (v := (1 : Int32)) dX4_signsRead_9 (by decide) ?_
  obtain ⟨c3, hw⟩ := wp_ck hw
  obtain ⟨c4, hw⟩ := wp_ck hw
  refine G_ialoadK (k := 1) dX4_signsRead_10 c3 (by decide) rfl c4 ?_
  have hw := wp_if hw
  refine G_icmp_ge (tgt := 38) dX4_signsRead_11 rfl (fun c5 => ?_) (fun c5 => ?_)
  · have hw := hw.1 c5
    refine G_iload_n dX4_signsRead_38 rfl ?_
    exact G_ireturn rfl dX4_signsRead_39 ⟨_, rfl, wp_ret hw⟩
  · have hw := hw.2 c5
    refine G_iload_n dX4_signsRead_14 rfl ?_
    refine G_aload_n dX4_signsRead_15 rfl ?_
    refine G_aload_n dX4_signsRead_16 rfl ?_
    refine G_iload_n dX4_signsRead_17 rfl ?_
    obtain ⟨c8, hw⟩ := wp_ck hw
    refine G_callV (As := [.ref l1, .int l3]) (s_X4_signAt hs l0 l1 l3 h _ (wp_cl hw)) ca_X4_signAt w_997 w_998 (ci := 4) rfl (by decide) w_1087 c8 (Nat.le_of_ble_eq_true rfl) (Nat.le_of_ble_eq_true rfl) rfl (Nat.le_of_ble_eq_true rfl) (Nat.le_of_ble_eq_true rfl) (Nat.le_of_ble_eq_true rfl) dX4_signsRead_18 rfl (fun v h7 hq => ?_)
    obtain ⟨r6, rfl, hw⟩ := hq
    refine G.cse (cs' := (0, 0)) rfl ?_
    show GZ _ _ _ _ _ _ _ 21 _ (.int r6 :: [.int l2]) _ _
    refine G_iconst (v := (-1 : Int32)) dX4_signsRead_21 (by decide) ?_
    have hw := wp_if hw
    refine G_icmp_ne (tgt := 29) dX4_signsRead_22 rfl (fun c9 => ?_) (fun c9 => ?_)
    · have hw := hw.2 c9
      refine G_iconst (v := (1 : Int32)) dX4_signsRead_29 (by decide) ?_
      refine G.less [some (.ref l0), some (.ref l1), none, some (.int l3)] ⟨rfl, ⟨rfl, ⟨rfl, trivial⟩⟩⟩ ?_
      exact f_X4_signsRead_30_ok hs hK_4 _ _ _ _ _ h7 Q hw
    · have hw := hw.1 c9
      refine G_iconst (v := (0 : Int32)) dX4_signsRead_25 (by decide) ?_
      refine G_goto (tgt := 30) dX4_signsRead_26 rfl ?_
      refine G.less [some (.ref l0), some (.ref l1), none, some (.int l3)] ⟨rfl, ⟨rfl, ⟨rfl, trivial⟩⟩⟩ ?_
      exact f_X4_signsRead_30_ok hs hK_4 _ _ _ _ _ h7 Q hw
theorem f_X4_signsRead_4_ok {Γ : GX} (hs : SF Γ) {N : Nat} : ∀ (n : Nat) (l0 : Nat) (l1 : Nat) (l2 : Int32) (l3 : Int32) (h : PH) (Q : Int32 → PH → Prop), wp (f_X4_signsRead_4 N n l0 l1 l2 l3 h) Q → G Γ yX4_signsRead cX4_signsRead 4 (some .int) (6, 0, 0) 4 [some (.ref l0), some (.ref l1), some (.int l2), some (.int l3)] [] h (0, 0) (q_i Q)
  | 0, _, _, _, _, _, Q, hw => (wp_no hw).elim
  | n + 1, l0, l1, l2, l3, h, Q, hw => f_X4_signsRead_4_bok (N := N) hs (f_X4_signsRead_4_ok (N := N) hs n) l0 l1 l2 l3 h Q hw
set_option maxHeartbeats 4000000 in
set_option maxRecDepth 100000 in
theorem s_X4_signsRead {Γ : GX} (hs : SF Γ) {N : Nat} (l0 : Nat) (l1 : Nat) (h : PH) (Q : Int32 → PH → Prop) (hw : wp (f_X4_signsRead N l0 l1 h) Q) : Spec Γ yX4_signsRead cX4_signsRead 4 (some .int) (6, 0, 0) [.ref l0, .ref l1] h (q_i Q) := by
  refine Spec.of (by decide) (Nat.le_of_ble_eq_true rfl) [some (.ref l0), some (.ref l1), none, none] rfl ?_
  unfold f_X4_signsRead at hw
  refine G_iconst (v := (0 : Int32)) dX4_signsRead_0 (by decide) ?_
  refine G_istore_n (lv' := [some (.ref l0), some (.ref l1), some (.int (0 : Int32)), none]) dX4_signsRead_1 (Nat.le_of_ble_eq_true rfl) rfl ?_
  refine G_iconst (v := (0 : Int32)) dX4_signsRead_2 (by decide) ?_
  refine G_istore_n (lv' := [some (.ref l0), some (.ref l1), some (.int (0 : Int32)), some (.int (0 : Int32))]) dX4_signsRead_3 (Nat.le_of_ble_eq_true rfl) rfl ?_
  refine G.less [some (.ref l0), some (.ref l1), some (.int (0 : Int32)), some (.int (0 : Int32))] ⟨rfl, ⟨rfl, ⟨rfl, ⟨rfl, trivial⟩⟩⟩⟩ ?_
  exact f_X4_signsRead_4_ok hs N _ _ _ _ h Q hw
set_option maxHeartbeats 4000000 in
set_option maxRecDepth 100000 in
theorem s_X0_play {Γ : GX} (hs : SF Γ) {N : Nat} (l0 : Nat) (l1 : Int32) (l2 : Nat) (l3 : Nat) (h : PH) (Q : Int32 → PH → Prop) (hw : wp (f_X0_play N l0 l1 l2 l3 h) Q) : Spec Γ yX0_play cX0_play 7 (some .boolean) (7, 0, 0) [.ref l0, .int l1, .ref l2, .ref l3] h (q_i Q) := by
  refine Spec.of (by decide) (Nat.le_of_ble_eq_true rfl) [some (.ref l0), some (.int l1), some (.ref l2), some (.ref l3), none, none, none] rfl ?_
  unfold f_X0_play at hw
  refine G_iload_n dX0_play_0 rfl ?_
  have hw := wp_if hw
  refine G_if_lt (tgt := 12) dX0_play_1 rfl (fun c1 => ?_) (fun c1 => ?_)
  · have hw := hw.1 c1
    refine G_iconst (v := (0 : Int32)) dX0_play_12 (by decide) ?_
    exact G_zreturn rfl dX0_play_13 rfl ⟨_, rfl, wp_ret hw⟩
  · have hw := hw.2 c1
    refine G_iload_n dX0_play_4 rfl ?_
    refine G_aload_n dX0_play_5 rfl ?_
    obtain ⟨c2, hw⟩ := wp_ck hw
    refine G_getI fl_X0_lines w_248 dX0_play_6 c2 ?_
    have hw := wp_if hw
    refine G_icmp_lt (tgt := 14) dX0_play_9 rfl (fun c3 => ?_) (fun c3 => ?_)
    · have hw := hw.1 c3
      refine G_iload_n dX0_play_14 rfl ?_
      refine G_iconst (v := (5 : Int32)) dX0_play_15 (by decide) ?_
      refine G_imul dX0_play_16 ?_
      refine G.topi fun v4 ev4 => ?_
      have hw := wp_bd hw v4 ev4
      refine G_istore (lv' := [some (.ref l0), some (.int l1), some (.ref l2), some (.ref l3), some (.int v4), none, none]) dX0_play_17 (Nat.le_of_ble_eq_true rfl) rfl ?_
      refine G_aload_n dX0_play_19 rfl ?_
      refine G_getR fl_X0_cells w_247 dX0_play_20 c2 ?_
      obtain ⟨a5, ea5, hw⟩ := wp_rq hw
      refine G.sure ea5 ?_
      refine G_iload dX0_play_23 rfl ?_
      refine G_iconst (v := (1 : Int32)) dX0_play_25 (by decide) ?_
      refine G_iadd dX0_play_26 ?_
      obtain ⟨c6, hw⟩ := wp_ck hw
      obtain ⟨c7, hw⟩ := wp_ck hw
      refine G_iaload dX0_play_27 c6 c7 ?_
      refine G.topi fun v8 ev8 => ?_
      have hw := wp_bd hw v8 ev8
      refine G_istore (lv' := [some (.ref l0), some (.int l1), some (.ref l2), some (.ref l3), some (.int v4), some (.int v8), none]) dX0_play_28 (Nat.le_of_ble_eq_true rfl) rfl ?_
      refine G_aload_n dX0_play_30 rfl ?_
      refine G_getR fl_X0_cells w_247 dX0_play_31 c2 ?_
      obtain ⟨a9, ea9, hw⟩ := wp_rq hw
      refine G.sure ea9 ?_
      refine G_iload dX0_play_34 rfl ?_
      refine G_iconst (v := (3 : Int32)) dX0_play_36 (by decide) ?_
      refine G_iadd dX0_play_37 ?_
      obtain ⟨c10, hw⟩ := wp_ck hw
      obtain ⟨c11, hw⟩ := wp_ck hw
      refine G_iaload dX0_play_38 c10 c11 ?_
      refine G.topi fun v12 ev12 => ?_
      have hw := wp_bd hw v12 ev12
      refine G_istore (lv' := [some (.ref l0), some (.int l1), some (.ref l2), some (.ref l3), some (.int v4), some (.int v8), some (.int v12)]) dX0_play_39 (Nat.le_of_ble_eq_true rfl) rfl ?_
      refine G_aload_n dX0_play_41 rfl ?_
      refine G_getR fl_X0_cells w_247 dX0_play_42 c2 ?_
      obtain ⟨a13, ea13, hw⟩ := wp_rq hw
      refine G.sure ea13 ?_
      refine G_iload dX0_play_45 rfl ?_
      obtain ⟨c14, hw⟩ := wp_ck hw
      obtain ⟨c15, hw⟩ := wp_ck hw
      refine G_iaload dX0_play_47 c14 c15 ?_
      refine G_iconst (v := (2 : Int32)) dX0_play_48 (by decide) ?_
      have hw := wp_if hw
      refine G_icmp_ne (tgt := 60) dX0_play_49 rfl (fun c16 => ?_) (fun c16 => ?_)
      · have hw := hw.2 c16
        refine G_aload_n dX0_play_60 rfl ?_
        refine G_getR fl_X0_cells w_247 dX0_play_61 c2 ?_
        obtain ⟨a17, ea17, hw⟩ := wp_rq hw
        refine G.sure ea17 ?_
        refine G_iload dX0_play_64 rfl ?_
        obtain ⟨c18, hw⟩ := wp_ck hw
        obtain ⟨c19, hw⟩ := wp_ck hw
        refine G_iaload dX0_play_66 c18 c19 ?_
        have hw := wp_if hw
        refine G_if_ne (tgt := 80) dX0_play_67 rfl (fun c20 => ?_) (fun c20 => ?_)
        · have hw := hw.2 c20
          refine G_aload_n dX0_play_80 rfl ?_
          refine G_iload dX0_play_81 rfl ?_
          refine G_aload_n dX0_play_83 rfl ?_
          refine G_getR fl_X0_cells w_247 dX0_play_84 c2 ?_
          obtain ⟨a21, ea21, hw⟩ := wp_rq hw
          refine G.sure ea21 ?_
          refine G_iload dX0_play_87 rfl ?_
          refine G_iconst (v := (2 : Int32)) dX0_play_89 (by decide) ?_
          refine G_iadd dX0_play_90 ?_
          obtain ⟨c22, hw⟩ := wp_ck hw
          obtain ⟨c23, hw⟩ := wp_ck hw
          refine G_iaload dX0_play_91 c22 c23 ?_
          refine G_iload dX0_play_92 rfl ?_
          refine G_aload_n dX0_play_94 rfl ?_
          refine G_getR fl_X0_cells w_247 dX0_play_95 c2 ?_
          obtain ⟨a24, ea24, hw⟩ := wp_rq hw
          refine G.sure ea24 ?_
          refine G_iload dX0_play_98 rfl ?_
          refine G_iconst (v := (4 : Int32)) dX0_play_100 (by decide) ?_
          refine G_iadd dX0_play_101 ?_
          obtain ⟨c25, hw⟩ := wp_ck hw
          obtain ⟨c26, hw⟩ := wp_ck hw
          refine G_iaload dX0_play_102 c25 c26 ?_
          obtain ⟨c29, hw⟩ := wp_ck hw
          refine G_callV (As := [.int v8, .int (hI h a21 (ix (v4 + (2 : Int32)))), .int v12, .int (hI h a24 (ix (v4 + (4 : Int32))))]) (s_X4_hand hs l2 v8 (hI h a21 (ix (v4 + (2 : Int32)))) v12 (hI h a24 (ix (v4 + (4 : Int32)))) h _ (wp_cl hw)) ca_X4_hand w_1050 w_1051 (ci := 4) rfl (by decide) w_1094 c29 (Nat.le_of_ble_eq_true rfl) (Nat.le_of_ble_eq_true rfl) rfl (Nat.le_of_ble_eq_true rfl) (Nat.le_of_ble_eq_true rfl) (Nat.le_of_ble_eq_true rfl) dX0_play_103 rfl (fun v h28 hq => ?_)
          obtain ⟨r27, rfl, hw⟩ := hq
          refine G.cse (cs' := (0, 0)) rfl ?_
          show GZ _ _ _ _ _ _ _ 106 _ (.int r27 :: []) _ _
          obtain ⟨c30, hw⟩ := wp_ck hw
          exact G_zreturn rfl dX0_play_106 (g_nb c30) ⟨_, rfl, wp_ret hw⟩
        · have hw := hw.1 c20
          refine G_aload_n dX0_play_70 rfl ?_
          refine G_aload_n dX0_play_71 rfl ?_
          refine G_iload dX0_play_72 rfl ?_
          refine G_iload dX0_play_74 rfl ?_
          obtain ⟨c33, hw⟩ := wp_ck hw
          refine G_callV (As := [.ref l3, .int v8, .int v12]) (s_X4_light hs l2 l3 v8 v12 h _ (wp_cl hw)) ca_X4_light w_1037 w_1038 (ci := 4) rfl (by decide) w_1093 c33 (Nat.le_of_ble_eq_true rfl) (Nat.le_of_ble_eq_true rfl) rfl (Nat.le_of_ble_eq_true rfl) (Nat.le_of_ble_eq_true rfl) (Nat.le_of_ble_eq_true rfl) dX0_play_76 rfl (fun v h32 hq => ?_)
          obtain ⟨r31, rfl, hw⟩ := hq
          refine G.cse (cs' := (0, 0)) rfl ?_
          show GZ _ _ _ _ _ _ _ 79 _ (.int r31 :: []) _ _
          obtain ⟨c34, hw⟩ := wp_ck hw
          exact G_zreturn rfl dX0_play_79 (g_nb c34) ⟨_, rfl, wp_ret hw⟩
      · have hw := hw.1 c16
        refine G_aload_n dX0_play_52 rfl ?_
        refine G_aload_n dX0_play_53 rfl ?_
        obtain ⟨c37, hw⟩ := wp_ck hw
        refine G_callV (As := [.ref l3]) (s_X4_pass hs l2 l3 h _ (wp_cl hw)) ca_X4_pass w_1059 w_1060 (ci := 4) rfl (by decide) w_1092 c37 (Nat.le_of_ble_eq_true rfl) (Nat.le_of_ble_eq_true rfl) rfl (Nat.le_of_ble_eq_true rfl) (Nat.le_of_ble_eq_true rfl) (Nat.le_of_ble_eq_true rfl) dX0_play_54 rfl (fun v h36 hq => ?_)
        obtain ⟨r35, rfl, hw⟩ := hq
        refine G.cse (cs' := (0, 0)) rfl ?_
        show GZ _ _ _ _ _ _ _ 57 _ (.int r35 :: []) _ _
        refine G_pop dX0_play_57 rfl ?_
        refine G_iconst (v := (1 : Int32)) dX0_play_58 (by decide) ?_
        exact G_zreturn rfl dX0_play_59 rfl ⟨_, rfl, wp_ret hw⟩
    · have hw := hw.2 c3
      refine G_iconst (v := (0 : Int32)) dX0_play_12 (by decide) ?_
      exact G_zreturn rfl dX0_play_13 rfl ⟨_, rfl, wp_ret hw⟩
set_option maxHeartbeats 4000000 in
set_option maxRecDepth 100000 in
theorem f_X4_sootOfAll_4_bok {Γ : GX} (hs : SF Γ) {N : Nat} {K_4 : Nat → Int32 → Int32 → PH → Option (Int32 × PH)} (hK_4 : ∀ (l0 : Nat) (l1 : Int32) (l2 : Int32) (h : PH) (Q : Int32 → PH → Prop), wp (K_4 l0 l1 l2 h) Q → G Γ yX4_sootOfAll cX4_sootOfAll 3 (some .int) (1, 0, 0) 4 [some (.ref l0), some (.int l1), some (.int l2)] [] h (0, 0) (q_i Q)) (l0 : Nat) (l1 : Int32) (l2 : Int32) (h : PH) (Q : Int32 → PH → Prop) (hw : wp (f_X4_sootOfAll_4_b N K_4 l0 l1 l2 h) Q) : G Γ yX4_sootOfAll cX4_sootOfAll 3 (some .int) (1, 0, 0) 4 [some (.ref l0), some (.int l1), some (.int l2)] [] h (0, 0) (q_i Q) := by
  unfold f_X4_sootOfAll_4_b at hw
  refine G_iload_n dX4_sootOfAll_4 rfl ?_
  refine G_iconst (v := (3 : Int32)) dX4_sootOfAll_5 (by decide) ?_
  have hw := wp_if hw
  refine G_icmp_ge (tgt := 24) dX4_sootOfAll_6 rfl (fun c1 => ?_) (fun c1 => ?_)
  · have hw := hw.1 c1
    refine G_iload_n dX4_sootOfAll_24 rfl ?_
    exact G_ireturn rfl dX4_sootOfAll_25 ⟨_, rfl, wp_ret hw⟩
  · have hw := hw.2 c1
    refine G_iload_n dX4_sootOfAll_9 rfl ?_
    refine G_aload_n dX4_sootOfAll_10 rfl ?_
    obtain ⟨c2, hw⟩ := wp_ck hw
    refine G_getR fl_X4_soot w_227 dX4_sootOfAll_11 c2 ?_
    obtain ⟨a3, ea3, hw⟩ := wp_rq hw
    refine G.sure ea3 ?_
    refine G_iload_n dX4_sootOfAll_14 rfl ?_
    obtain ⟨c4, hw⟩ := wp_ck hw
    obtain ⟨c5, hw⟩ := wp_ck hw
    refine G_iaload dX4_sootOfAll_15 c4 c5 ?_
    refine G_iadd dX4_sootOfAll_16 ?_
    refine G.topi fun v6 ev6 => ?_
    have hw := wp_bd hw v6 ev6
    refine G_istore_n (lv' := [some (.ref l0), some (.int v6), some (.int l2)]) dX4_sootOfAll_17 (Nat.le_of_ble_eq_true rfl) rfl ?_
    obtain ⟨v7, ev7⟩ : ∃ z : Int32, z = l2 + (1 : Int32) := ⟨_, rfl⟩
    have hw := wp_bd hw v7 ev7
    refine G_iinc (v := v7) (lv' := [some (.ref l0), some (.int v6), some (.int v7)]) dX4_sootOfAll_18 rfl (by rw [ev7]; rfl) (Nat.le_of_ble_eq_true rfl) rfl ?_
    refine G_goto (tgt := 4) dX4_sootOfAll_21 rfl ?_
    refine G.less [some (.ref l0), some (.int v6), some (.int v7)] ⟨rfl, ⟨rfl, ⟨rfl, trivial⟩⟩⟩ ?_
    exact hK_4 _ _ _ h Q hw
theorem f_X4_sootOfAll_4_ok {Γ : GX} (hs : SF Γ) {N : Nat} : ∀ (n : Nat) (l0 : Nat) (l1 : Int32) (l2 : Int32) (h : PH) (Q : Int32 → PH → Prop), wp (f_X4_sootOfAll_4 N n l0 l1 l2 h) Q → G Γ yX4_sootOfAll cX4_sootOfAll 3 (some .int) (1, 0, 0) 4 [some (.ref l0), some (.int l1), some (.int l2)] [] h (0, 0) (q_i Q)
  | 0, _, _, _, _, Q, hw => (wp_no hw).elim
  | n + 1, l0, l1, l2, h, Q, hw => f_X4_sootOfAll_4_bok (N := N) hs (f_X4_sootOfAll_4_ok (N := N) hs n) l0 l1 l2 h Q hw
set_option maxHeartbeats 4000000 in
set_option maxRecDepth 100000 in
theorem s_X4_sootOfAll {Γ : GX} (hs : SF Γ) {N : Nat} (l0 : Nat) (h : PH) (Q : Int32 → PH → Prop) (hw : wp (f_X4_sootOfAll N l0 h) Q) : Spec Γ yX4_sootOfAll cX4_sootOfAll 3 (some .int) (1, 0, 0) [.ref l0] h (q_i Q) := by
  refine Spec.of (by decide) (Nat.le_of_ble_eq_true rfl) [some (.ref l0), none, none] rfl ?_
  unfold f_X4_sootOfAll at hw
  refine G_iconst (v := (0 : Int32)) dX4_sootOfAll_0 (by decide) ?_
  refine G_istore_n (lv' := [some (.ref l0), some (.int (0 : Int32)), none]) dX4_sootOfAll_1 (Nat.le_of_ble_eq_true rfl) rfl ?_
  refine G_iconst (v := (0 : Int32)) dX4_sootOfAll_2 (by decide) ?_
  refine G_istore_n (lv' := [some (.ref l0), some (.int (0 : Int32)), some (.int (0 : Int32))]) dX4_sootOfAll_3 (Nat.le_of_ble_eq_true rfl) rfl ?_
  refine G.less [some (.ref l0), some (.int (0 : Int32)), some (.int (0 : Int32))] ⟨rfl, ⟨rfl, ⟨rfl, trivial⟩⟩⟩ ?_
  exact f_X4_sootOfAll_4_ok hs N _ _ _ h Q hw
set_option maxHeartbeats 4000000 in
set_option maxRecDepth 100000 in
theorem f_X10_judged_105_ok {Γ : GX} (hs : SF Γ) {N : Nat} {K_30 : Nat → Int32 → Int32 → Int32 → Int32 → PH → Option (Int32 × PH)} (hK_30 : ∀ (l0 : Nat) (l1 : Int32) (l2 : Int32) (l3 : Int32) (l4 : Int32) (h : PH) (Q : Int32 → PH → Prop), wp (K_30 l0 l1 l2 l3 l4 h) Q → G Γ yX10_judged cX10_judged 5 (some .int) (8, 0, 0) 30 [some (.ref l0), some (.int l1), some (.int l2), some (.int l3), some (.int l4)] [] h (0, 0) (q_i Q)) (l0 : Nat) (l1 : Int32) (l2 : Int32) (l3 : Int32) (l4 : Int32) (h : PH) (Q : Int32 → PH → Prop) (hw : wp (f_X10_judged_105 N K_30 l0 l1 l2 l3 l4 h) Q) : G Γ yX10_judged cX10_judged 5 (some .int) (8, 0, 0) 105 [some (.ref l0), some (.int l1), some (.int l2), some (.int l3), some (.int l4)] [] h (0, 0) (q_i Q) := by
  unfold f_X10_judged_105 at hw
  obtain ⟨v1, ev1⟩ : ∃ z : Int32, z = l4 + (1 : Int32) := ⟨_, rfl⟩
  have hw := wp_bd hw v1 ev1
  refine G_iinc (v := v1) (lv' := [some (.ref l0), some (.int l1), some (.int l2), some (.int l3), some (.int v1)]) dX10_judged_105 rfl (by rw [ev1]; rfl) (Nat.le_of_ble_eq_true rfl) rfl ?_
  refine G_goto (tgt := 30) dX10_judged_108 rfl ?_
  refine G.less [some (.ref l0), some (.int l1), some (.int l2), some (.int l3), some (.int v1)] ⟨rfl, ⟨rfl, ⟨rfl, ⟨rfl, ⟨rfl, trivial⟩⟩⟩⟩⟩ ?_
  exact hK_30 _ _ _ _ _ h Q hw
set_option maxHeartbeats 4000000 in
set_option maxRecDepth 100000 in
theorem f_X10_judged_74_ok {Γ : GX} (hs : SF Γ) {N : Nat} {K_30 : Nat → Int32 → Int32 → Int32 → Int32 → PH → Option (Int32 × PH)} (hK_30 : ∀ (l0 : Nat) (l1 : Int32) (l2 : Int32) (l3 : Int32) (l4 : Int32) (h : PH) (Q : Int32 → PH → Prop), wp (K_30 l0 l1 l2 l3 l4 h) Q → G Γ yX10_judged cX10_judged 5 (some .int) (8, 0, 0) 30 [some (.ref l0), some (.int l1), some (.int l2), some (.int l3), some (.int l4)] [] h (0, 0) (q_i Q)) (l0 : Nat) (l1 : Int32) (l2 : Int32) (l3 : Int32) (l4 : Int32) (h : PH) (Q : Int32 → PH → Prop) (hw : wp (f_X10_judged_74 N K_30 l0 l1 l2 l3 l4 h) Q) : G Γ yX10_judged cX10_judged 5 (some .int) (8, 0, 0) 74 [some (.ref l0), some (.int l1), some (.int l2), some (.int l3), some (.int l4)] [] h (0, 0) (q_i Q) := by
  unfold f_X10_judged_74 at hw
  refine G_aload_n dX10_judged_74 rfl ?_
  obtain ⟨c1, hw⟩ := wp_ck hw
  refine G_getR fl_X10_now w_498 dX10_judged_75 c1 ?_
  obtain ⟨a2, ea2, hw⟩ := wp_rq hw
  refine G.sure ea2 ?_
  obtain ⟨c3, hw⟩ := wp_ck hw
  refine G_getNR fl_X2_day w_259 dX10_judged_78 c3 ?_
  obtain ⟨a4, ea4, hw⟩ := wp_rq hw
  refine G.sure ea4 ?_
  refine G_iload dX10_judged_81 rfl ?_
  refine G_aload_n dX10_judged_83 rfl ?_
  refine G_getR fl_X10_dream w_501 dX10_judged_84 c1 ?_
  obtain ⟨a5, ea5, hw⟩ := wp_rq hw
  refine G.sure ea5 ?_
  refine G_aload_n dX10_judged_87 rfl ?_
  refine G_getR fl_X10_valley w_507 dX10_judged_88 c1 ?_
  obtain ⟨a6, ea6, hw⟩ := wp_rq hw
  refine G.sure ea6 ?_
  obtain ⟨c9, hw⟩ := wp_ck hw
  refine G_callV (As := [.int l4, .ref a5, .ref a6]) (s_X0_play hs a4 l4 a5 a6 h _ (wp_cl hw)) ca_X0_play w_1089 w_1090 (ci := 0) rfl (by decide) w_1088 c9 (Nat.le_of_ble_eq_true rfl) (Nat.le_of_ble_eq_true rfl) rfl (Nat.le_of_ble_eq_true rfl) (Nat.le_of_ble_eq_true rfl) (Nat.le_of_ble_eq_true rfl) dX10_judged_91 rfl (fun v h8 hq => ?_)
  obtain ⟨r7, rfl, hw⟩ := hq
  refine G.cse (cs' := (0, 0)) rfl ?_
  show GZ _ _ _ _ _ _ _ 94 _ (.int r7 :: []) _ _
  have hw := wp_if hw
  refine G_if_ne (tgt := 105) dX10_judged_94 rfl (fun c10 => ?_) (fun c10 => ?_)
  · have hw := hw.2 c10
    refine G.less [some (.ref l0), some (.int l1), some (.int l2), some (.int l3), some (.int l4)] ⟨rfl, ⟨rfl, ⟨rfl, ⟨rfl, ⟨rfl, trivial⟩⟩⟩⟩⟩ ?_
    exact f_X10_judged_105_ok hs hK_30 _ _ _ _ _ h8 Q hw
  · have hw := hw.1 c10
    refine G_iload_n dX10_judged_97 rfl ?_
    refine G_iconst (v := (-1 : Int32)) dX10_judged_98 (by decide) ?_
    have hw := wp_if hw
    refine G_icmp_ne (tgt := 105) dX10_judged_99 rfl (fun c11 => ?_) (fun c11 => ?_)
    · have hw := hw.2 c11
      refine G.less [some (.ref l0), some (.int l1), some (.int l2), some (.int l3), some (.int l4)] ⟨rfl, ⟨rfl, ⟨rfl, ⟨rfl, ⟨rfl, trivial⟩⟩⟩⟩⟩ ?_
      exact f_X10_judged_105_ok hs hK_30 _ _ _ _ _ h8 Q hw
    · have hw := hw.1 c11
      refine G_iload dX10_judged_102 rfl ?_
      refine G_istore_n (lv' := [some (.ref l0), some (.int l1), some (.int l4), some (.int l3), some (.int l4)]) dX10_judged_104 (Nat.le_of_ble_eq_true rfl) rfl ?_
      refine G.less [some (.ref l0), some (.int l1), some (.int l4), some (.int l3), some (.int l4)] ⟨rfl, ⟨rfl, ⟨rfl, ⟨rfl, ⟨rfl, trivial⟩⟩⟩⟩⟩ ?_
      exact f_X10_judged_105_ok hs hK_30 _ _ _ _ _ h8 Q hw
set_option maxHeartbeats 4000000 in
set_option maxRecDepth 100000 in
theorem f_X10_judged_30_bok {Γ : GX} (hs : SF Γ) {N : Nat} {K_30 : Nat → Int32 → Int32 → Int32 → Int32 → PH → Option (Int32 × PH)} (hK_30 : ∀ (l0 : Nat) (l1 : Int32) (l2 : Int32) (l3 : Int32) (l4 : Int32) (h : PH) (Q : Int32 → PH → Prop), wp (K_30 l0 l1 l2 l3 l4 h) Q → G Γ yX10_judged cX10_judged 5 (some .int) (8, 0, 0) 30 [some (.ref l0), some (.int l1), some (.int l2), some (.int l3), some (.int l4)] [] h (0, 0) (q_i Q)) (l0 : Nat) (l1 : Int32) (l2 : Int32) (l3 : Int32) (l4 : Int32) (h : PH) (Q : Int32 → PH → Prop) (hw : wp (f_X10_judged_30_b N K_30 l0 l1 l2 l3 l4 h) Q) : G Γ yX10_judged cX10_judged 5 (some .int) (8, 0, 0) 30 [some (.ref l0), some (.int l1), some (.int l2), some (.int l3), some (.int l4)] [] h (0, 0) (q_i Q) := by
  unfold f_X10_judged_30_b at hw
  refine G_iload dX10_judged_30 rfl ?_
  refine G_aload_n dX10_judged_32 rfl ?_
  obtain ⟨c1, hw⟩ := wp_ck hw
  refine G_getR fl_X10_now w_498 dX10_judged_33 c1 ?_
  obtain ⟨a2, ea2, hw⟩ := wp_rq hw
  refine G.sure ea2 ?_
  obtain ⟨c3, hw⟩ := wp_ck hw
  refine G_getNR fl_X2_day w_259 dX10_judged_36 c3 ?_
  obtain ⟨a4, ea4, hw⟩ := wp_rq hw
  refine G.sure ea4 ?_
  obtain ⟨c5, hw⟩ := wp_ck hw
  refine G_getNI fl_X0_lines w_249 dX10_judged_39 c5 ?_
  have hw := wp_if hw
  refine G_icmp_ge (tgt := 111) dX10_judged_42 rfl (fun c6 => ?_) (fun c6 => ?_)
  · have hw := hw.1 c6
    refine G_iload_n dX10_judged_111 rfl ?_
    have hw := wp_if hw
    refine G_if_ne (tgt := 119) dX10_judged_112 rfl (fun c7 => ?_) (fun c7 => ?_)
    · have hw := hw.2 c7
      refine G_iload_n dX10_judged_119 rfl ?_
      refine G_iconst (v := (1 : Int32)) dX10_judged_120 (by decide) ?_
      have hw := wp_if hw
      refine G_icmp_ne (tgt := 128) dX10_judged_121 rfl (fun c8 => ?_) (fun c8 => ?_)
      · have hw := hw.2 c8
        refine G_aload_n dX10_judged_128 rfl ?_
        refine G_getR fl_X10_dream w_501 dX10_judged_129 c1 ?_
        obtain ⟨a9, ea9, hw⟩ := wp_rq hw
        refine G.sure ea9 ?_
        obtain ⟨c12, hw⟩ := wp_ck hw
        refine G_callV (As := []) (s_X4_sootOfAll hs a9 h _ (wp_cl hw)) ca_X4_sootOfAll w_1096 w_1097 (ci := 4) rfl (by decide) w_1095 c12 (Nat.le_of_ble_eq_true rfl) (Nat.le_of_ble_eq_true rfl) rfl (Nat.le_of_ble_eq_true rfl) (Nat.le_of_ble_eq_true rfl) (Nat.le_of_ble_eq_true rfl) dX10_judged_132 rfl (fun v h11 hq => ?_)
        obtain ⟨r10, rfl, hw⟩ := hq
        refine G.cse (cs' := (0, 0)) rfl ?_
        show GZ _ _ _ _ _ _ _ 135 _ (.int r10 :: []) _ _
        exact G_ireturn rfl dX10_judged_135 ⟨_, rfl, wp_ret hw⟩
      · have hw := hw.1 c8
        refine G_iload_n dX10_judged_124 rfl ?_
        refine G_goto (tgt := 135) dX10_judged_125 rfl ?_
        exact G_ireturn rfl dX10_judged_135 ⟨_, rfl, wp_ret hw⟩
    · have hw := hw.1 c7
      refine G_iload_n dX10_judged_115 rfl ?_
      refine G_goto (tgt := 135) dX10_judged_116 rfl ?_
      exact G_ireturn rfl dX10_judged_135 ⟨_, rfl, wp_ret hw⟩
  · have hw := hw.2 c6
    refine G_aload_n dX10_judged_45 rfl ?_
    refine G_getR fl_X10_now w_498 dX10_judged_46 c1 ?_
    obtain ⟨a13, ea13, hw⟩ := wp_rq hw
    refine G.sure ea13 ?_
    obtain ⟨c14, hw⟩ := wp_ck hw
    refine G_getNR fl_X2_day w_259 dX10_judged_49 c14 ?_
    obtain ⟨a15, ea15, hw⟩ := wp_rq hw
    refine G.sure ea15 ?_
    refine G_iload dX10_judged_52 rfl ?_
    obtain ⟨c18, hw⟩ := wp_ck hw
    refine G_callV (As := [.int l4]) (s_X0_isHour hs a15 l4 h _ (wp_cl hw)) ca_X0_isHour w_1080 w_1081 (ci := 0) rfl (by decide) w_1079 c18 (Nat.le_of_ble_eq_true rfl) (Nat.le_of_ble_eq_true rfl) rfl (Nat.le_of_ble_eq_true rfl) (Nat.le_of_ble_eq_true rfl) (Nat.le_of_ble_eq_true rfl) dX10_judged_54 rfl (fun v h17 hq => ?_)
    obtain ⟨r16, rfl, hw⟩ := hq
    refine G.cse (cs' := (0, 0)) rfl ?_
    show GZ _ _ _ _ _ _ _ 57 _ (.int r16 :: []) _ _
    have hw := wp_if hw
    refine G_if_eq (tgt := 74) dX10_judged_57 rfl (fun c19 => ?_) (fun c19 => ?_)
    · have hw := hw.1 c19
      refine G.less [some (.ref l0), some (.int l1), some (.int l2), some (.int l3), some (.int l4)] ⟨rfl, ⟨rfl, ⟨rfl, ⟨rfl, ⟨rfl, trivial⟩⟩⟩⟩⟩ ?_
      exact f_X10_judged_74_ok hs hK_30 _ _ _ _ _ h17 Q hw
    · have hw := hw.2 c19
      refine G_iload_n dX10_judged_60 rfl ?_
      refine G_aload_n dX10_judged_61 rfl ?_
      obtain ⟨c20, hw⟩ := wp_ck hw
      refine G_getR fl_X10_dream w_501 dX10_judged_62 c20 ?_
      obtain ⟨a21, ea21, hw⟩ := wp_rq hw
      refine G.sure ea21 ?_
      refine G_aload_n dX10_judged_65 rfl ?_
      refine G_getR fl_X10_valley w_507 dX10_judged_66 c20 ?_
      obtain ⟨a22, ea22, hw⟩ := wp_rq hw
      refine G.sure ea22 ?_
      obtain ⟨c25, hw⟩ := wp_ck hw
      refine G_callV (As := [.ref a22]) (s_X4_signsRead hs a21 a22 h17 _ (wp_cl hw)) ca_X4_signsRead w_1084 w_1085 (ci := 4) rfl (by decide) w_1083 c25 (Nat.le_of_ble_eq_true rfl) (Nat.le_of_ble_eq_true rfl) rfl (Nat.le_of_ble_eq_true rfl) (Nat.le_of_ble_eq_true rfl) (Nat.le_of_ble_eq_true rfl) dX10_judged_69 rfl (fun v h24 hq => ?_)
      obtain ⟨r23, rfl, hw⟩ := hq
      refine G.cse (cs' := (0, 0)) rfl ?_
      show GZ _ _ _ _ _ _ _ 72 _ (.int r23 :: [.int l3]) _ _
      refine G_iadd dX10_judged_72 ?_
      refine G.topi fun v26 ev26 => ?_
      have hw := wp_bd hw v26 ev26
      refine G_istore_n (lv' := [some (.ref l0), some (.int l1), some (.int l2), some (.int v26), some (.int l4)]) dX10_judged_73 (Nat.le_of_ble_eq_true rfl) rfl ?_
      refine G.less [some (.ref l0), some (.int l1), some (.int l2), some (.int v26), some (.int l4)] ⟨rfl, ⟨rfl, ⟨rfl, ⟨rfl, ⟨rfl, trivial⟩⟩⟩⟩⟩ ?_
      exact f_X10_judged_74_ok hs hK_30 _ _ _ _ _ h24 Q hw
theorem f_X10_judged_30_ok {Γ : GX} (hs : SF Γ) {N : Nat} : ∀ (n : Nat) (l0 : Nat) (l1 : Int32) (l2 : Int32) (l3 : Int32) (l4 : Int32) (h : PH) (Q : Int32 → PH → Prop), wp (f_X10_judged_30 N n l0 l1 l2 l3 l4 h) Q → G Γ yX10_judged cX10_judged 5 (some .int) (8, 0, 0) 30 [some (.ref l0), some (.int l1), some (.int l2), some (.int l3), some (.int l4)] [] h (0, 0) (q_i Q)
  | 0, _, _, _, _, _, _, Q, hw => (wp_no hw).elim
  | n + 1, l0, l1, l2, l3, l4, h, Q, hw => f_X10_judged_30_bok (N := N) hs (f_X10_judged_30_ok (N := N) hs n) l0 l1 l2 l3 l4 h Q hw
set_option maxHeartbeats 4000000 in
set_option maxRecDepth 100000 in
theorem s_X10_judged {Γ : GX} (hs : SF Γ) {N : Nat} (l0 : Nat) (l1 : Int32) (h : PH) (Q : Int32 → PH → Prop) (hw : wp (f_X10_judged N l0 l1 h) Q) : Spec Γ yX10_judged cX10_judged 5 (some .int) (8, 0, 0) [.ref l0, .int l1] h (q_i Q) := by
  refine Spec.of (by decide) (Nat.le_of_ble_eq_true rfl) [some (.ref l0), some (.int l1), none, none, none] rfl ?_
  unfold f_X10_judged at hw
  refine G_iload_n dX10_judged_0 rfl ?_
  have hw := wp_if hw
  refine G_if_lt (tgt := 9) dX10_judged_1 rfl (fun c1 => ?_) (fun c1 => ?_)
  · have hw := hw.1 c1
    refine G_bipush (v := (-2 : Int32)) dX10_judged_9 (by decide) ?_
    exact G_ireturn rfl dX10_judged_11 ⟨_, rfl, wp_ret hw⟩
  · have hw := hw.2 c1
    refine G_iload_n dX10_judged_4 rfl ?_
    refine G_iconst (v := (2 : Int32)) dX10_judged_5 (by decide) ?_
    have hw := wp_if hw
    refine G_icmp_le (tgt := 12) dX10_judged_6 rfl (fun c2 => ?_) (fun c2 => ?_)
    · have hw := hw.1 c2
      refine G_aload_n dX10_judged_12 rfl ?_
      obtain ⟨c3, hw⟩ := wp_ck hw
      refine G_getR fl_X10_dream w_501 dX10_judged_13 c3 ?_
      obtain ⟨a4, ea4, hw⟩ := wp_rq hw
      refine G.sure ea4 ?_
      refine G_aload_n dX10_judged_16 rfl ?_
      refine G_getR fl_X10_valley w_507 dX10_judged_17 c3 ?_
      obtain ⟨a5, ea5, hw⟩ := wp_rq hw
      refine G.sure ea5 ?_
      obtain ⟨c8, hw⟩ := wp_ck hw
      refine G_callV (As := [.ref a5]) (s_X4_begin hs a4 a5 h _ (wp_cl hw)) ca_X4_begin w_904 w_905 (ci := 4) rfl (by decide) w_1078 c8 (Nat.le_of_ble_eq_true rfl) (Nat.le_of_ble_eq_true rfl) rfl (Nat.le_of_ble_eq_true rfl) (Nat.le_of_ble_eq_true rfl) (Nat.le_of_ble_eq_true rfl) dX10_judged_20 rfl (fun v h7 hq => ?_)
      obtain ⟨rfl, hw⟩ := hq
      refine G.cse (cs' := (0, 0)) rfl ?_
      show GZ _ _ _ _ _ _ _ 23 _ [] _ _
      refine G_iconst (v := (-1 : Int32)) dX10_judged_23 (by decide) ?_
      refine G_istore_n (lv' := [some (.ref l0), some (.int l1), some (.int (-1 : Int32)), none, none]) dX10_judged_24 (Nat.le_of_ble_eq_true rfl) rfl ?_
      refine G_iconst (v := (0 : Int32)) dX10_judged_25 (by decide) ?_
      refine G_istore_n (lv' := [some (.ref l0), some (.int l1), some (.int (-1 : Int32)), some (.int (0 : Int32)), none]) dX10_judged_26 (Nat.le_of_ble_eq_true rfl) rfl ?_
      refine G_iconst (v := (0 : Int32)) dX10_judged_27 (by decide) ?_
      refine G_istore (lv' := [some (.ref l0), some (.int l1), some (.int (-1 : Int32)), some (.int (0 : Int32)), some (.int (0 : Int32))]) dX10_judged_28 (Nat.le_of_ble_eq_true rfl) rfl ?_
      refine G.less [some (.ref l0), some (.int l1), some (.int (-1 : Int32)), some (.int (0 : Int32)), some (.int (0 : Int32))] ⟨rfl, ⟨rfl, ⟨rfl, ⟨rfl, ⟨rfl, trivial⟩⟩⟩⟩⟩ ?_
      exact f_X10_judged_30_ok hs N _ _ _ _ _ h7 Q hw
    · have hw := hw.2 c2
      refine G_bipush (v := (-2 : Int32)) dX10_judged_9 (by decide) ?_
      exact G_ireturn rfl dX10_judged_11 ⟨_, rfl, wp_ret hw⟩
set_option maxHeartbeats 4000000 in
set_option maxRecDepth 100000 in
theorem s_X10_isSignOrNone {Γ : GX} (hs : SF Γ) {N : Nat} (l0 : Nat) (l1 : Int32) (h : PH) (Q : Int32 → PH → Prop) (hw : wp (f_X10_isSignOrNone N l0 l1 h) Q) : Spec Γ yX10_isSignOrNone cX10_isSignOrNone 2 (some .boolean) (2, 0, 0) [.ref l0, .int l1] h (q_i Q) := by
  refine Spec.of (by decide) (Nat.le_of_ble_eq_true rfl) [some (.ref l0), some (.int l1)] rfl ?_
  unfold f_X10_isSignOrNone at hw
  refine G_iload_n dX10_isSignOrNone_0 rfl ?_
  refine G_iconst (v := (-1 : Int32)) dX10_isSignOrNone_1 (by decide) ?_
  have hw := wp_if hw
  refine G_icmp_eq (tgt := 17) dX10_isSignOrNone_2 rfl (fun c1 => ?_) (fun c1 => ?_)
  · have hw := hw.1 c1
    refine G_iconst (v := (1 : Int32)) dX10_isSignOrNone_17 (by decide) ?_
    refine G_goto (tgt := 22) dX10_isSignOrNone_18 rfl ?_
    exact G_zreturn rfl dX10_isSignOrNone_22 rfl ⟨_, rfl, wp_ret hw⟩
  · have hw := hw.2 c1
    refine G_aload_n dX10_isSignOrNone_5 rfl ?_
    obtain ⟨c2, hw⟩ := wp_ck hw
    refine G_getR fl_X10_valley w_507 dX10_isSignOrNone_6 c2 ?_
    obtain ⟨a3, ea3, hw⟩ := wp_rq hw
    refine G.sure ea3 ?_
    refine G_iconst (v := (3 : Int32)) dX10_isSignOrNone_9 (by decide) ?_
    refine G_iload_n dX10_isSignOrNone_10 rfl ?_
    obtain ⟨c6, hw⟩ := wp_ck hw
    refine G_callV (As := [.int (3 : Int32), .int l1]) (s_X6_has hs a3 (3 : Int32) l1 h _ (wp_cl hw)) ca_X6_has w_955 w_956 (ci := 6) rfl (by decide) w_954 c6 (Nat.le_of_ble_eq_true rfl) (Nat.le_of_ble_eq_true rfl) rfl (Nat.le_of_ble_eq_true rfl) (Nat.le_of_ble_eq_true rfl) (Nat.le_of_ble_eq_true rfl) dX10_isSignOrNone_11 rfl (fun v h5 hq => ?_)
    obtain ⟨r4, rfl, hw⟩ := hq
    refine G.cse (cs' := (0, 0)) rfl ?_
    show GZ _ _ _ _ _ _ _ 14 _ (.int r4 :: []) _ _
    have hw := wp_if hw
    refine G_if_eq (tgt := 21) dX10_isSignOrNone_14 rfl (fun c7 => ?_) (fun c7 => ?_)
    · have hw := hw.1 c7
      refine G_iconst (v := (0 : Int32)) dX10_isSignOrNone_21 (by decide) ?_
      exact G_zreturn rfl dX10_isSignOrNone_22 rfl ⟨_, rfl, wp_ret hw⟩
    · have hw := hw.2 c7
      refine G_iconst (v := (1 : Int32)) dX10_isSignOrNone_17 (by decide) ?_
      refine G_goto (tgt := 22) dX10_isSignOrNone_18 rfl ?_
      exact G_zreturn rfl dX10_isSignOrNone_22 rfl ⟨_, rfl, wp_ret hw⟩
set_option maxHeartbeats 4000000 in
set_option maxRecDepth 100000 in
theorem s_X3_keep {Γ : GX} (hs : SF Γ) {N : Nat} (l0 : Nat) (l1 : Int32) (l2 : Int32) (l3 : Int32) (l4 : Int32) (h : PH) (Q : Unit → PH → Prop) (hw : wp (f_X3_keep N l0 l1 l2 l3 l4 h) Q) : Spec Γ yX3_keep cX3_keep 6 none (4, 0, 0) [.ref l0, .int l1, .int l2, .int l3, .int l4] h (q_u Q) := by
  refine Spec.of (by decide) (Nat.le_of_ble_eq_true rfl) [some (.ref l0), some (.int l1), some (.int l2), some (.int l3), some (.int l4), none] rfl ?_
  unfold f_X3_keep at hw
  refine G_aload_n dX3_keep_0 rfl ?_
  obtain ⟨c1, hw⟩ := wp_ck hw
  refine G_getR fl_X3_valley w_362 dX3_keep_1 c1 ?_
  obtain ⟨a2, ea2, hw⟩ := wp_rq hw
  refine G.sure ea2 ?_
  refine G_aload_n dX3_keep_4 rfl ?_
  refine G_getR fl_X3_state w_363 dX3_keep_5 c1 ?_
  obtain ⟨a3, ea3, hw⟩ := wp_rq hw
  refine G.sure ea3 ?_
  obtain ⟨c4, hw⟩ := wp_ck hw
  refine G_getNI fl_X4_hour w_218 dX3_keep_8 c4 ?_
  refine G_iconst (v := (1 : Int32)) dX3_keep_11 (by decide) ?_
  refine G_iadd dX3_keep_12 ?_
  obtain ⟨c7, hw⟩ := wp_ck hw
  refine G_callV (As := [.int ((hI h a3 0) + (1 : Int32))]) (s_X6_windAt hs a2 ((hI h a3 0) + (1 : Int32)) h _ (wp_cl hw)) ca_X6_windAt w_975 w_976 (ci := 6) rfl (by decide) w_1125 c7 (Nat.le_of_ble_eq_true rfl) (Nat.le_of_ble_eq_true rfl) rfl (Nat.le_of_ble_eq_true rfl) (Nat.le_of_ble_eq_true rfl) (Nat.le_of_ble_eq_true rfl) dX3_keep_13 rfl (fun v h6 hq => ?_)
  obtain ⟨r5, rfl, hw⟩ := hq
  refine G.cse (cs' := (0, 0)) rfl ?_
  show GZ _ _ _ _ _ _ _ 16 _ (.int r5 :: []) _ _
  refine G_istore (lv' := [some (.ref l0), some (.int l1), some (.int l2), some (.int l3), some (.int l4), some (.int r5)]) dX3_keep_16 (Nat.le_of_ble_eq_true rfl) rfl ?_
  refine G_aload_n dX3_keep_18 rfl ?_
  obtain ⟨c8, hw⟩ := wp_ck hw
  refine G_getR fl_X3_darkThen w_357 dX3_keep_19 c8 ?_
  obtain ⟨a9, ea9, hw⟩ := wp_rq hw
  refine G.sure ea9 ?_
  refine G_iload_n dX3_keep_22 rfl ?_
  refine G_bipush (v := (11 : Int32)) dX3_keep_23 (by decide) ?_
  refine G_imul dX3_keep_25 ?_
  refine G_iload_n dX3_keep_26 rfl ?_
  refine G_iadd dX3_keep_27 ?_
  refine G_aload_n dX3_keep_28 rfl ?_
  refine G_getR fl_X3_valley w_362 dX3_keep_29 c8 ?_
  obtain ⟨a10, ea10, hw⟩ := wp_rq hw
  refine G.sure ea10 ?_
  refine G_iload_n dX3_keep_32 rfl ?_
  refine G_iload dX3_keep_33 rfl ?_
  refine G_iload dX3_keep_35 rfl ?_
  refine G_iconst (v := (0 : Int32)) dX3_keep_37 (by decide) ?_
  obtain ⟨c13, hw⟩ := wp_ck hw
  refine G_callV (As := [.int l3, .int l4, .int r5, .int (0 : Int32)]) (s_X6_givesOf hs a10 l3 l4 r5 (0 : Int32) h6 _ (wp_cl hw)) ca_X6_givesOf w_979 w_980 (ci := 6) rfl (by decide) w_1126 c13 (Nat.le_of_ble_eq_true rfl) (Nat.le_of_ble_eq_true rfl) rfl (Nat.le_of_ble_eq_true rfl) (Nat.le_of_ble_eq_true rfl) (Nat.le_of_ble_eq_true rfl) dX3_keep_38 rfl (fun v h12 hq => ?_)
  obtain ⟨r11, rfl, hw⟩ := hq
  refine G.cse (cs' := (0, 0)) rfl ?_
  show GZ _ _ _ _ _ _ _ 41 _ (.int r11 :: [.int ((l1 * (11 : Int32)) + l2), .ref a9]) _ _
  obtain ⟨c14, hw⟩ := wp_ck hw
  obtain ⟨c15, hw⟩ := wp_ck hw
  refine G_iastore dX3_keep_41 c14 c15 ?_
  refine G.nmh fun h16 eh16 => ?_
  have hw := wp_bd hw h16 eh16
  refine G_aload_n dX3_keep_42 rfl ?_
  obtain ⟨c17, hw⟩ := wp_ck hw
  refine G_getR fl_X3_sweetThen w_358 dX3_keep_43 c17 ?_
  obtain ⟨a18, ea18, hw⟩ := wp_rq hw
  refine G.sure ea18 ?_
  refine G_iload_n dX3_keep_46 rfl ?_
  refine G_bipush (v := (11 : Int32)) dX3_keep_47 (by decide) ?_
  refine G_imul dX3_keep_49 ?_
  refine G_iload_n dX3_keep_50 rfl ?_
  refine G_iadd dX3_keep_51 ?_
  refine G_aload_n dX3_keep_52 rfl ?_
  refine G_getR fl_X3_valley w_362 dX3_keep_53 c17 ?_
  obtain ⟨a19, ea19, hw⟩ := wp_rq hw
  refine G.sure ea19 ?_
  refine G_iload_n dX3_keep_56 rfl ?_
  refine G_iload dX3_keep_57 rfl ?_
  refine G_iload dX3_keep_59 rfl ?_
  refine G_iconst (v := (1 : Int32)) dX3_keep_61 (by decide) ?_
  obtain ⟨c22, hw⟩ := wp_ck hw
  refine G_callV (As := [.int l3, .int l4, .int r5, .int (1 : Int32)]) (s_X6_givesOf hs a19 l3 l4 r5 (1 : Int32) h16 _ (wp_cl hw)) ca_X6_givesOf w_979 w_980 (ci := 6) rfl (by decide) w_1126 c22 (Nat.le_of_ble_eq_true rfl) (Nat.le_of_ble_eq_true rfl) rfl (Nat.le_of_ble_eq_true rfl) (Nat.le_of_ble_eq_true rfl) (Nat.le_of_ble_eq_true rfl) dX3_keep_62 rfl (fun v h21 hq => ?_)
  obtain ⟨r20, rfl, hw⟩ := hq
  refine G.cse (cs' := (0, 0)) rfl ?_
  show GZ _ _ _ _ _ _ _ 65 _ (.int r20 :: [.int ((l1 * (11 : Int32)) + l2), .ref a18]) _ _
  obtain ⟨c23, hw⟩ := wp_ck hw
  obtain ⟨c24, hw⟩ := wp_ck hw
  refine G_iastore dX3_keep_65 c23 c24 ?_
  refine G.nmh fun h25 eh25 => ?_
  have hw := wp_bd hw h25 eh25
  exact G_vreturn rfl dX3_keep_66 ⟨rfl, wp_ret hw⟩
set_option maxHeartbeats 4000000 in
set_option maxRecDepth 100000 in
theorem f_X3_prepareBehind_214_ok {Γ : GX} (hs : SF Γ) {N : Nat} {K_141 : Nat → Int32 → Int32 → Int32 → Int32 → Int32 → PH → Option (Unit × PH)} (hK_141 : ∀ (l0 : Nat) (l1 : Int32) (l2 : Int32) (l3 : Int32) (l7 : Int32) (l8 : Int32) (h : PH) (Q : Unit → PH → Prop), wp (K_141 l0 l1 l2 l3 l7 l8 h) Q → G Γ yX3_prepareBehind cX3_prepareBehind 9 none (5, 0, 0) 141 [some (.ref l0), some (.int l1), some (.int l2), some (.int l3), none, none, none, some (.int l7), some (.int l8)] [] h (0, 0) (q_u Q)) (l0 : Nat) (l1 : Int32) (l2 : Int32) (l3 : Int32) (l7 : Int32) (l8 : Int32) (h : PH) (Q : Unit → PH → Prop) (hw : wp (f_X3_prepareBehind_214 N K_141 l0 l1 l2 l3 l7 l8 h) Q) : G Γ yX3_prepareBehind cX3_prepareBehind 9 none (5, 0, 0) 214 [some (.ref l0), some (.int l1), some (.int l2), some (.int l3), none, none, none, some (.int l7), some (.int l8)] [] h (0, 0) (q_u Q) := by
  unfold f_X3_prepareBehind_214 at hw
  obtain ⟨v1, ev1⟩ : ∃ z : Int32, z = l8 + (1 : Int32) := ⟨_, rfl⟩
  have hw := wp_bd hw v1 ev1
  refine G_iinc (v := v1) (lv' := [some (.ref l0), some (.int l1), some (.int l2), some (.int l3), none, none, none, some (.int l7), some (.int v1)]) dX3_prepareBehind_214 rfl (by rw [ev1]; rfl) (Nat.le_of_ble_eq_true rfl) rfl ?_
  refine G_goto (tgt := 141) dX3_prepareBehind_217 rfl ?_
  refine G.less [some (.ref l0), some (.int l1), some (.int l2), some (.int l3), none, none, none, some (.int l7), some (.int v1)] ⟨rfl, ⟨rfl, ⟨rfl, ⟨rfl, ⟨rfl, ⟨rfl, trivial⟩⟩⟩⟩⟩⟩ ?_
  exact hK_141 _ _ _ _ _ _ h Q hw
set_option maxHeartbeats 4000000 in
set_option maxRecDepth 100000 in
theorem f_X3_prepareBehind_176_ok {Γ : GX} (hs : SF Γ) {N : Nat} {K_141 : Nat → Int32 → Int32 → Int32 → Int32 → Int32 → PH → Option (Unit × PH)} (hK_141 : ∀ (l0 : Nat) (l1 : Int32) (l2 : Int32) (l3 : Int32) (l7 : Int32) (l8 : Int32) (h : PH) (Q : Unit → PH → Prop), wp (K_141 l0 l1 l2 l3 l7 l8 h) Q → G Γ yX3_prepareBehind cX3_prepareBehind 9 none (5, 0, 0) 141 [some (.ref l0), some (.int l1), some (.int l2), some (.int l3), none, none, none, some (.int l7), some (.int l8)] [] h (0, 0) (q_u Q)) (s0 : Int32) (s1 : Int32) (l0 : Nat) (l1 : Int32) (l2 : Int32) (l3 : Int32) (l7 : Int32) (l8 : Int32) (h : PH) (Q : Unit → PH → Prop) (hw : wp (f_X3_prepareBehind_176 N K_141 s0 s1 l0 l1 l2 l3 l7 l8 h) Q) : G Γ yX3_prepareBehind cX3_prepareBehind 9 none (5, 0, 0) 176 [some (.ref l0), some (.int l1), some (.int l2), some (.int l3), none, none, none, some (.int l7), some (.int l8)] [.int s0, .int s1] h (0, 0) (q_u Q) := by
  unfold f_X3_prepareBehind_176 at hw
  have hw := wp_if hw
  refine G_icmp_le (tgt := 214) dX3_prepareBehind_176 rfl (fun c1 => ?_) (fun c1 => ?_)
  · have hw := hw.1 c1
    refine G.less [some (.ref l0), some (.int l1), some (.int l2), some (.int l3), none, none, none, some (.int l7), some (.int l8)] ⟨rfl, ⟨rfl, ⟨rfl, ⟨rfl, ⟨rfl, ⟨rfl, trivial⟩⟩⟩⟩⟩⟩ ?_
    exact f_X3_prepareBehind_214_ok hs hK_141 _ _ _ _ _ _ h Q hw
  · have hw := hw.2 c1
    refine G_aload_n dX3_prepareBehind_179 rfl ?_
    obtain ⟨c2, hw⟩ := wp_ck hw
    refine G_getR fl_X3_fresh w_360 dX3_prepareBehind_180 c2 ?_
    obtain ⟨a3, ea3, hw⟩ := wp_rq hw
    refine G.sure ea3 ?_
    refine G_iload dX3_prepareBehind_183 rfl ?_
    refine G_dup2 dX3_prepareBehind_185 rfl rfl ?_
    obtain ⟨c4, hw⟩ := wp_ck hw
    obtain ⟨c5, hw⟩ := wp_ck hw
    refine G_iaload dX3_prepareBehind_186 c4 c5 ?_
    refine G_iconst (v := (1 : Int32)) dX3_prepareBehind_187 (by decide) ?_
    refine G_iload dX3_prepareBehind_188 rfl ?_
    refine G_ishl dX3_prepareBehind_190 ?_
    refine G_ior dX3_prepareBehind_191 ?_
    refine G_iastore dX3_prepareBehind_192 c4 c5 ?_
    refine G.nmh fun h6 eh6 => ?_
    have hw := wp_bd hw h6 eh6
    refine G_aload_n dX3_prepareBehind_193 rfl ?_
    refine G_iload_n dX3_prepareBehind_194 rfl ?_
    refine G_iconst (v := (1 : Int32)) dX3_prepareBehind_195 (by decide) ?_
    refine G_iload dX3_prepareBehind_196 rfl ?_
    refine G_iadd dX3_prepareBehind_198 ?_
    refine G_iload dX3_prepareBehind_199 rfl ?_
    refine G_aload_n dX3_prepareBehind_201 rfl ?_
    obtain ⟨c7, hw⟩ := wp_ck hw
    refine G_getR fl_X3_valley w_362 dX3_prepareBehind_202 c7 ?_
    obtain ⟨a8, ea8, hw⟩ := wp_rq hw
    refine G.sure ea8 ?_
    obtain ⟨c9, hw⟩ := wp_ck hw
    refine G_getNR fl_X6_fuelBurns w_438 dX3_prepareBehind_205 c9 ?_
    obtain ⟨a10, ea10, hw⟩ := wp_rq hw
    refine G.sure ea10 ?_
    refine G_iload dX3_prepareBehind_208 rfl ?_
    obtain ⟨c11, hw⟩ := wp_ck hw
    obtain ⟨c12, hw⟩ := wp_ck hw
    refine G_iaload dX3_prepareBehind_210 c11 c12 ?_
    refine G_callV (As := [.int l1, .int ((1 : Int32) + l8), .int l8, .int (hI h6 a10 (ix l8))]) (s_X3_keep hs l0 l1 ((1 : Int32) + l8) l8 (hI h6 a10 (ix l8)) h6 _ (wp_cl hw)) ca_X3_keep w_1123 w_27 (ci := 3) rfl (by decide) w_1121 c7 (Nat.le_of_ble_eq_true rfl) (Nat.le_of_ble_eq_true rfl) rfl (Nat.le_of_ble_eq_true rfl) (Nat.le_of_ble_eq_true rfl) (Nat.le_of_ble_eq_true rfl) dX3_prepareBehind_211 rfl (fun v h14 hq => ?_)
    obtain ⟨rfl, hw⟩ := hq
    refine G.cse (cs' := (0, 0)) rfl ?_
    show GZ _ _ _ _ _ _ _ 214 _ [] _ _
    refine G.less [some (.ref l0), some (.int l1), some (.int l2), some (.int l3), none, none, none, some (.int l7), some (.int l8)] ⟨rfl, ⟨rfl, ⟨rfl, ⟨rfl, ⟨rfl, ⟨rfl, trivial⟩⟩⟩⟩⟩⟩ ?_
    exact f_X3_prepareBehind_214_ok hs hK_141 _ _ _ _ _ _ h14 Q hw
set_option maxHeartbeats 4000000 in
set_option maxRecDepth 100000 in
theorem f_X3_prepareBehind_220_ok {Γ : GX} (hs : SF Γ) {N : Nat} (l0 : Nat) (l1 : Int32) (l7 : Int32) (h : PH) (Q : Unit → PH → Prop) (hw : wp (f_X3_prepareBehind_220 N l0 l1 l7 h) Q) : G Γ yX3_prepareBehind cX3_prepareBehind 9 none (5, 0, 0) 220 [some (.ref l0), some (.int l1), none, none, none, none, none, some (.int l7), none] [] h (0, 0) (q_u Q) := by
  unfold f_X3_prepareBehind_220 at hw
  refine G_aload_n dX3_prepareBehind_220 rfl ?_
  obtain ⟨c1, hw⟩ := wp_ck hw
  refine G_getR fl_X3_shows w_356 dX3_prepareBehind_221 c1 ?_
  obtain ⟨a2, ea2, hw⟩ := wp_rq hw
  refine G.sure ea2 ?_
  refine G_iload_n dX3_prepareBehind_224 rfl ?_
  refine G_dup2 dX3_prepareBehind_225 rfl rfl ?_
  obtain ⟨c3, hw⟩ := wp_ck hw
  obtain ⟨c4, hw⟩ := wp_ck hw
  refine G_iaload dX3_prepareBehind_226 c3 c4 ?_
  refine G_iconst (v := (1 : Int32)) dX3_prepareBehind_227 (by decide) ?_
  refine G_aload_n dX3_prepareBehind_228 rfl ?_
  refine G_getR fl_X3_idle w_359 dX3_prepareBehind_229 c1 ?_
  obtain ⟨a5, ea5, hw⟩ := wp_rq hw
  refine G.sure ea5 ?_
  refine G_iload dX3_prepareBehind_232 rfl ?_
  obtain ⟨c6, hw⟩ := wp_ck hw
  obtain ⟨c7, hw⟩ := wp_ck hw
  refine G_iaload dX3_prepareBehind_234 c6 c7 ?_
  refine G_ishl dX3_prepareBehind_235 ?_
  refine G_aload_n dX3_prepareBehind_236 rfl ?_
  refine G_getR fl_X3_fresh w_360 dX3_prepareBehind_237 c1 ?_
  obtain ⟨a8, ea8, hw⟩ := wp_rq hw
  refine G.sure ea8 ?_
  refine G_iload dX3_prepareBehind_240 rfl ?_
  obtain ⟨c9, hw⟩ := wp_ck hw
  obtain ⟨c10, hw⟩ := wp_ck hw
  refine G_iaload dX3_prepareBehind_242 c9 c10 ?_
  refine G_iconst (v := (1 : Int32)) dX3_prepareBehind_243 (by decide) ?_
  refine G_ishl dX3_prepareBehind_244 ?_
  refine G_ior dX3_prepareBehind_245 ?_
  refine G_ior dX3_prepareBehind_246 ?_
  refine G_iastore dX3_prepareBehind_247 c3 c4 ?_
  refine G.nmh fun h11 eh11 => ?_
  have hw := wp_bd hw h11 eh11
  exact G_vreturn rfl dX3_prepareBehind_248 ⟨rfl, wp_ret hw⟩
set_option maxHeartbeats 4000000 in
set_option maxRecDepth 100000 in
theorem f_X3_prepareBehind_141_bok {Γ : GX} (hs : SF Γ) {N : Nat} {K_141 : Nat → Int32 → Int32 → Int32 → Int32 → Int32 → PH → Option (Unit × PH)} (hK_141 : ∀ (l0 : Nat) (l1 : Int32) (l2 : Int32) (l3 : Int32) (l7 : Int32) (l8 : Int32) (h : PH) (Q : Unit → PH → Prop), wp (K_141 l0 l1 l2 l3 l7 l8 h) Q → G Γ yX3_prepareBehind cX3_prepareBehind 9 none (5, 0, 0) 141 [some (.ref l0), some (.int l1), some (.int l2), some (.int l3), none, none, none, some (.int l7), some (.int l8)] [] h (0, 0) (q_u Q)) (l0 : Nat) (l1 : Int32) (l2 : Int32) (l3 : Int32) (l7 : Int32) (l8 : Int32) (h : PH) (Q : Unit → PH → Prop) (hw : wp (f_X3_prepareBehind_141_b N K_141 l0 l1 l2 l3 l7 l8 h) Q) : G Γ yX3_prepareBehind cX3_prepareBehind 9 none (5, 0, 0) 141 [some (.ref l0), some (.int l1), some (.int l2), some (.int l3), none, none, none, some (.int l7), some (.int l8)] [] h (0, 0) (q_u Q) := by
  unfold f_X3_prepareBehind_141_b at hw
  refine G_iload dX3_prepareBehind_141 rfl ?_
  refine G_aload_n dX3_prepareBehind_143 rfl ?_
  obtain ⟨c1, hw⟩ := wp_ck hw
  refine G_getR fl_X3_valley w_362 dX3_prepareBehind_144 c1 ?_
  obtain ⟨a2, ea2, hw⟩ := wp_rq hw
  refine G.sure ea2 ?_
  obtain ⟨c3, hw⟩ := wp_ck hw
  refine G_getNR fl_X6_many w_427 dX3_prepareBehind_147 c3 ?_
  obtain ⟨a4, ea4, hw⟩ := wp_rq hw
  refine G.sure ea4 ?_
  refine G_iconst (v := (0 : Int32)) dX3_prepareBehind_150 (by decide) ?_
  obtain ⟨c5, hw⟩ := wp_ck hw
  obtain ⟨c6, hw⟩ := wp_ck hw
  refine G_ialoadK (k := 0) dX3_prepareBehind_151 c5 (by decide) rfl c6 ?_
  have hw := wp_if hw
  refine G_icmp_ge (tgt := 220) dX3_prepareBehind_152 rfl (fun c7 => ?_) (fun c7 => ?_)
  · have hw := hw.1 c7
    refine G.less [some (.ref l0), some (.int l1), none, none, none, none, none, some (.int l7), none] ⟨rfl, ⟨rfl, ⟨rfl, trivial⟩⟩⟩ ?_
    exact f_X3_prepareBehind_220_ok hs _ _ _ h Q hw
  · have hw := hw.2 c7
    refine G_aload_n dX3_prepareBehind_155 rfl ?_
    refine G_getR fl_X3_state w_363 dX3_prepareBehind_156 c1 ?_
    obtain ⟨a8, ea8, hw⟩ := wp_rq hw
    refine G.sure ea8 ?_
    refine G_iload_n dX3_prepareBehind_159 rfl ?_
    refine G_iload dX3_prepareBehind_160 rfl ?_
    obtain ⟨c11, hw⟩ := wp_ck hw
    refine G_callV (As := [.int l3, .int l8]) (s_X4_stockOf hs a8 l3 l8 h _ (wp_cl hw)) ca_X4_stockOf w_959 w_960 (ci := 4) rfl (by decide) w_1127 c11 (Nat.le_of_ble_eq_true rfl) (Nat.le_of_ble_eq_true rfl) rfl (Nat.le_of_ble_eq_true rfl) (Nat.le_of_ble_eq_true rfl) (Nat.le_of_ble_eq_true rfl) dX3_prepareBehind_162 rfl (fun v h10 hq => ?_)
    obtain ⟨r9, rfl, hw⟩ := hq
    refine G.cse (cs' := (0, 0)) rfl ?_
    show GZ _ _ _ _ _ _ _ 165 _ (.int r9 :: []) _ _
    refine G_iload dX3_prepareBehind_165 rfl ?_
    refine G_iload_n dX3_prepareBehind_167 rfl ?_
    have hw := wp_if hw
    refine G_icmp_ne (tgt := 175) dX3_prepareBehind_168 rfl (fun c12 => ?_) (fun c12 => ?_)
    · have hw := hw.2 c12
      refine G_iconst (v := (0 : Int32)) dX3_prepareBehind_175 (by decide) ?_
      refine G.less [some (.ref l0), some (.int l1), some (.int l2), some (.int l3), none, none, none, some (.int l7), some (.int l8)] ⟨rfl, ⟨rfl, ⟨rfl, ⟨rfl, ⟨rfl, ⟨rfl, trivial⟩⟩⟩⟩⟩⟩ ?_
      exact f_X3_prepareBehind_176_ok hs hK_141 _ _ _ _ _ _ _ _ h10 Q hw
    · have hw := hw.1 c12
      refine G_iconst (v := (1 : Int32)) dX3_prepareBehind_171 (by decide) ?_
      refine G_goto (tgt := 176) dX3_prepareBehind_172 rfl ?_
      refine G.less [some (.ref l0), some (.int l1), some (.int l2), some (.int l3), none, none, none, some (.int l7), some (.int l8)] ⟨rfl, ⟨rfl, ⟨rfl, ⟨rfl, ⟨rfl, ⟨rfl, trivial⟩⟩⟩⟩⟩⟩ ?_
      exact f_X3_prepareBehind_176_ok hs hK_141 _ _ _ _ _ _ _ _ h10 Q hw
theorem f_X3_prepareBehind_141_ok {Γ : GX} (hs : SF Γ) {N : Nat} : ∀ (n : Nat) (l0 : Nat) (l1 : Int32) (l2 : Int32) (l3 : Int32) (l7 : Int32) (l8 : Int32) (h : PH) (Q : Unit → PH → Prop), wp (f_X3_prepareBehind_141 N n l0 l1 l2 l3 l7 l8 h) Q → G Γ yX3_prepareBehind cX3_prepareBehind 9 none (5, 0, 0) 141 [some (.ref l0), some (.int l1), some (.int l2), some (.int l3), none, none, none, some (.int l7), some (.int l8)] [] h (0, 0) (q_u Q)
  | 0, _, _, _, _, _, _, _, Q, hw => (wp_no hw).elim
  | n + 1, l0, l1, l2, l3, l7, l8, h, Q, hw => f_X3_prepareBehind_141_bok (N := N) hs (f_X3_prepareBehind_141_ok (N := N) hs n) l0 l1 l2 l3 l7 l8 h Q hw
set_option maxHeartbeats 4000000 in
set_option maxRecDepth 100000 in
theorem f_X3_prepareBehind_76_ok {Γ : GX} (hs : SF Γ) {N : Nat} (s0 : Int32) (l0 : Nat) (l1 : Int32) (l2 : Int32) (l3 : Int32) (l5 : Int32) (h : PH) (Q : Unit → PH → Prop) (hw : wp (f_X3_prepareBehind_76 N s0 l0 l1 l2 l3 l5 h) Q) : G Γ yX3_prepareBehind cX3_prepareBehind 9 none (5, 0, 0) 76 [some (.ref l0), some (.int l1), some (.int l2), some (.int l3), none, some (.int l5), none, none, none] [.int s0] h (0, 0) (q_u Q) := by
  unfold f_X3_prepareBehind_76 at hw
  refine G_istore (lv' := [some (.ref l0), some (.int l1), some (.int l2), some (.int l3), none, some (.int l5), some (.int s0), none, none]) dX3_prepareBehind_76 (Nat.le_of_ble_eq_true rfl) rfl ?_
  refine G_iload_n dX3_prepareBehind_78 rfl ?_
  refine G_bipush (v := (6 : Int32)) dX3_prepareBehind_79 (by decide) ?_
  refine G_imul dX3_prepareBehind_81 ?_
  refine G_iload_n dX3_prepareBehind_82 rfl ?_
  refine G_iadd dX3_prepareBehind_83 ?_
  refine G_iconst (v := (1 : Int32)) dX3_prepareBehind_84 (by decide) ?_
  refine G_iadd dX3_prepareBehind_85 ?_
  refine G.topi fun v1 ev1 => ?_
  have hw := wp_bd hw v1 ev1
  refine G_istore (lv' := [some (.ref l0), some (.int l1), some (.int l2), some (.int l3), none, some (.int l5), some (.int s0), some (.int v1), none]) dX3_prepareBehind_86 (Nat.le_of_ble_eq_true rfl) rfl ?_
  refine G_aload_n dX3_prepareBehind_88 rfl ?_
  obtain ⟨c2, hw⟩ := wp_ck hw
  refine G_getR fl_X3_idle w_359 dX3_prepareBehind_89 c2 ?_
  obtain ⟨a3, ea3, hw⟩ := wp_rq hw
  refine G.sure ea3 ?_
  refine G_iload dX3_prepareBehind_92 rfl ?_
  refine G_iconst (v := (0 : Int32)) dX3_prepareBehind_94 (by decide) ?_
  obtain ⟨c4, hw⟩ := wp_ck hw
  obtain ⟨c5, hw⟩ := wp_ck hw
  refine G_iastore dX3_prepareBehind_95 c4 c5 ?_
  refine G.nmh fun h6 eh6 => ?_
  have hw := wp_bd hw h6 eh6
  refine G_aload_n dX3_prepareBehind_96 rfl ?_
  obtain ⟨c7, hw⟩ := wp_ck hw
  refine G_getR fl_X3_fresh w_360 dX3_prepareBehind_97 c7 ?_
  obtain ⟨a8, ea8, hw⟩ := wp_rq hw
  refine G.sure ea8 ?_
  refine G_iload dX3_prepareBehind_100 rfl ?_
  refine G_iconst (v := (0 : Int32)) dX3_prepareBehind_102 (by decide) ?_
  obtain ⟨c9, hw⟩ := wp_ck hw
  obtain ⟨c10, hw⟩ := wp_ck hw
  refine G_iastore dX3_prepareBehind_103 c9 c10 ?_
  refine G.nmh fun h11 eh11 => ?_
  have hw := wp_bd hw h11 eh11
  refine G_iload dX3_prepareBehind_104 rfl ?_
  have hw := wp_if hw
  refine G_if_le (tgt := 138) dX3_prepareBehind_106 rfl (fun c12 => ?_) (fun c12 => ?_)
  · have hw := hw.1 c12
    refine G_iconst (v := (0 : Int32)) dX3_prepareBehind_138 (by decide) ?_
    refine G_istore (lv' := [some (.ref l0), some (.int l1), some (.int l2), some (.int l3), none, some (.int l5), some (.int s0), some (.int v1), some (.int (0 : Int32))]) dX3_prepareBehind_139 (Nat.le_of_ble_eq_true rfl) rfl ?_
    refine G.less [some (.ref l0), some (.int l1), some (.int l2), some (.int l3), none, none, none, some (.int v1), some (.int (0 : Int32))] ⟨rfl, ⟨rfl, ⟨rfl, ⟨rfl, ⟨rfl, ⟨rfl, trivial⟩⟩⟩⟩⟩⟩ ?_
    exact f_X3_prepareBehind_141_ok hs N _ _ _ _ _ _ h11 Q hw
  · have hw := hw.2 c12
    refine G_aload_n dX3_prepareBehind_109 rfl ?_
    obtain ⟨c13, hw⟩ := wp_ck hw
    refine G_getR fl_X3_idle w_359 dX3_prepareBehind_110 c13 ?_
    obtain ⟨a14, ea14, hw⟩ := wp_rq hw
    refine G.sure ea14 ?_
    refine G_iload dX3_prepareBehind_113 rfl ?_
    refine G_bipush (v := (6 : Int32)) dX3_prepareBehind_115 (by decide) ?_
    refine G_iload dX3_prepareBehind_117 rfl ?_
    refine G_iadd dX3_prepareBehind_119 ?_
    obtain ⟨c15, hw⟩ := wp_ck hw
    obtain ⟨c16, hw⟩ := wp_ck hw
    refine G_iastore dX3_prepareBehind_120 c15 c16 ?_
    refine G.nmh fun h17 eh17 => ?_
    have hw := wp_bd hw h17 eh17
    refine G_aload_n dX3_prepareBehind_121 rfl ?_
    refine G_iload_n dX3_prepareBehind_122 rfl ?_
    refine G_bipush (v := (6 : Int32)) dX3_prepareBehind_123 (by decide) ?_
    refine G_iload dX3_prepareBehind_125 rfl ?_
    refine G_iadd dX3_prepareBehind_127 ?_
    refine G_iload dX3_prepareBehind_128 rfl ?_
    refine G_iload dX3_prepareBehind_130 rfl ?_
    obtain ⟨c20, hw⟩ := wp_ck hw
    refine G_callV (As := [.int l1, .int ((6 : Int32) + l5), .int l5, .int s0]) (s_X3_keep hs l0 l1 ((6 : Int32) + l5) l5 s0 h17 _ (wp_cl hw)) ca_X3_keep w_1123 w_27 (ci := 3) rfl (by decide) w_1121 c20 (Nat.le_of_ble_eq_true rfl) (Nat.le_of_ble_eq_true rfl) rfl (Nat.le_of_ble_eq_true rfl) (Nat.le_of_ble_eq_true rfl) (Nat.le_of_ble_eq_true rfl) dX3_prepareBehind_132 rfl (fun v h19 hq => ?_)
    obtain ⟨rfl, hw⟩ := hq
    refine G.cse (cs' := (0, 0)) rfl ?_
    show GZ _ _ _ _ _ _ _ 135 _ [] _ _
    refine G_goto (tgt := 220) dX3_prepareBehind_135 rfl ?_
    refine G.less [some (.ref l0), some (.int l1), none, none, none, none, none, some (.int v1), none] ⟨rfl, ⟨rfl, ⟨rfl, trivial⟩⟩⟩ ?_
    exact f_X3_prepareBehind_220_ok hs _ _ _ h19 Q hw
set_option maxHeartbeats 4000000 in
set_option maxRecDepth 100000 in
theorem f_X3_prepareBehind_35_ok {Γ : GX} (hs : SF Γ) {N : Nat} (s0 : Int32) (l0 : Nat) (l1 : Int32) (l2 : Int32) (l3 : Int32) (l4 : Int32) (h : PH) (Q : Unit → PH → Prop) (hw : wp (f_X3_prepareBehind_35 N s0 l0 l1 l2 l3 l4 h) Q) : G Γ yX3_prepareBehind cX3_prepareBehind 9 none (5, 0, 0) 35 [some (.ref l0), some (.int l1), some (.int l2), some (.int l3), some (.int l4), none, none, none, none] [.int s0] h (0, 0) (q_u Q) := by
  unfold f_X3_prepareBehind_35 at hw
  refine G_istore (lv' := [some (.ref l0), some (.int l1), some (.int l2), some (.int l3), some (.int l4), some (.int s0), none, none, none]) dX3_prepareBehind_35 (Nat.le_of_ble_eq_true rfl) rfl ?_
  refine G_iload dX3_prepareBehind_37 rfl ?_
  have hw := wp_if hw
  refine G_if_eq (tgt := 56) dX3_prepareBehind_39 rfl (fun c1 => ?_) (fun c1 => ?_)
  · have hw := hw.1 c1
    refine G_iload_n dX3_prepareBehind_56 rfl ?_
    refine G_iconst (v := (-1 : Int32)) dX3_prepareBehind_57 (by decide) ?_
    have hw := wp_if hw
    refine G_icmp_ne (tgt := 65) dX3_prepareBehind_58 rfl (fun c2 => ?_) (fun c2 => ?_)
    · have hw := hw.2 c2
      refine G_aload_n dX3_prepareBehind_65 rfl ?_
      obtain ⟨c3, hw⟩ := wp_ck hw
      refine G_getR fl_X3_valley w_362 dX3_prepareBehind_66 c3 ?_
      obtain ⟨a4, ea4, hw⟩ := wp_rq hw
      refine G.sure ea4 ?_
      obtain ⟨c5, hw⟩ := wp_ck hw
      refine G_getNR fl_X6_fuelBurns w_438 dX3_prepareBehind_69 c5 ?_
      obtain ⟨a6, ea6, hw⟩ := wp_rq hw
      refine G.sure ea6 ?_
      refine G_iload_n dX3_prepareBehind_72 rfl ?_
      obtain ⟨c7, hw⟩ := wp_ck hw
      obtain ⟨c8, hw⟩ := wp_ck hw
      refine G_iaload dX3_prepareBehind_73 c7 c8 ?_
      refine G_iconst (v := (1 : Int32)) dX3_prepareBehind_74 (by decide) ?_
      refine G_isub dX3_prepareBehind_75 ?_
      refine G.less [some (.ref l0), some (.int l1), some (.int l2), some (.int l3), none, some (.int s0), none, none, none] ⟨rfl, ⟨rfl, ⟨rfl, ⟨rfl, ⟨rfl, trivial⟩⟩⟩⟩⟩ ?_
      exact f_X3_prepareBehind_76_ok hs _ _ _ _ _ _ h Q hw
    · have hw := hw.1 c2
      refine G_iconst (v := (0 : Int32)) dX3_prepareBehind_61 (by decide) ?_
      refine G_goto (tgt := 76) dX3_prepareBehind_62 rfl ?_
      refine G.less [some (.ref l0), some (.int l1), some (.int l2), some (.int l3), none, some (.int s0), none, none, none] ⟨rfl, ⟨rfl, ⟨rfl, ⟨rfl, ⟨rfl, trivial⟩⟩⟩⟩⟩ ?_
      exact f_X3_prepareBehind_76_ok hs _ _ _ _ _ _ h Q hw
  · have hw := hw.2 c1
    refine G_aload_n dX3_prepareBehind_42 rfl ?_
    obtain ⟨c9, hw⟩ := wp_ck hw
    refine G_getR fl_X3_state w_363 dX3_prepareBehind_43 c9 ?_
    obtain ⟨a10, ea10, hw⟩ := wp_rq hw
    refine G.sure ea10 ?_
    obtain ⟨c11, hw⟩ := wp_ck hw
    refine G_getNR fl_X4_left w_225 dX3_prepareBehind_46 c11 ?_
    obtain ⟨a12, ea12, hw⟩ := wp_rq hw
    refine G.sure ea12 ?_
    refine G_iload_n dX3_prepareBehind_49 rfl ?_
    obtain ⟨c13, hw⟩ := wp_ck hw
    obtain ⟨c14, hw⟩ := wp_ck hw
    refine G_iaload dX3_prepareBehind_50 c13 c14 ?_
    refine G_iconst (v := (1 : Int32)) dX3_prepareBehind_51 (by decide) ?_
    refine G_isub dX3_prepareBehind_52 ?_
    refine G_goto (tgt := 76) dX3_prepareBehind_53 rfl ?_
    refine G.less [some (.ref l0), some (.int l1), some (.int l2), some (.int l3), none, some (.int s0), none, none, none] ⟨rfl, ⟨rfl, ⟨rfl, ⟨rfl, ⟨rfl, trivial⟩⟩⟩⟩⟩ ?_
    exact f_X3_prepareBehind_76_ok hs _ _ _ _ _ _ h Q hw
set_option maxHeartbeats 4000000 in
set_option maxRecDepth 100000 in
theorem s_X3_prepareBehind {Γ : GX} (hs : SF Γ) {N : Nat} (l0 : Nat) (l1 : Int32) (l2 : Int32) (h : PH) (Q : Unit → PH → Prop) (hw : wp (f_X3_prepareBehind N l0 l1 l2 h) Q) : Spec Γ yX3_prepareBehind cX3_prepareBehind 9 none (5, 0, 0) [.ref l0, .int l1, .int l2] h (q_u Q) := by
  refine Spec.of (by decide) (Nat.le_of_ble_eq_true rfl) [some (.ref l0), some (.int l1), some (.int l2), none, none, none, none, none, none] rfl ?_
  unfold f_X3_prepareBehind at hw
  refine G_aload_n dX3_prepareBehind_0 rfl ?_
  obtain ⟨c1, hw⟩ := wp_ck hw
  refine G_getR fl_X3_houses w_353 dX3_prepareBehind_1 c1 ?_
  obtain ⟨a2, ea2, hw⟩ := wp_rq hw
  refine G.sure ea2 ?_
  refine G_iload_n dX3_prepareBehind_4 rfl ?_
  obtain ⟨c3, hw⟩ := wp_ck hw
  obtain ⟨c4, hw⟩ := wp_ck hw
  refine G_iaload dX3_prepareBehind_5 c3 c4 ?_
  refine G.topi fun v5 ev5 => ?_
  have hw := wp_bd hw v5 ev5
  refine G_istore_n (lv' := [some (.ref l0), some (.int l1), some (.int l2), some (.int v5), none, none, none, none, none]) dX3_prepareBehind_6 (Nat.le_of_ble_eq_true rfl) rfl ?_
  refine G_aload_n dX3_prepareBehind_7 rfl ?_
  refine G_getR fl_X3_state w_363 dX3_prepareBehind_8 c1 ?_
  obtain ⟨a6, ea6, hw⟩ := wp_rq hw
  refine G.sure ea6 ?_
  refine G_iload_n dX3_prepareBehind_11 rfl ?_
  obtain ⟨c9, hw⟩ := wp_ck hw
  refine G_callV (As := [.int v5]) (s_X4_burns hs a6 v5 h _ (wp_cl hw)) ca_X4_burns w_1024 w_1025 (ci := 4) rfl (by decide) w_1120 c9 (Nat.le_of_ble_eq_true rfl) (Nat.le_of_ble_eq_true rfl) rfl (Nat.le_of_ble_eq_true rfl) (Nat.le_of_ble_eq_true rfl) (Nat.le_of_ble_eq_true rfl) dX3_prepareBehind_12 rfl (fun v h8 hq => ?_)
  obtain ⟨r7, rfl, hw⟩ := hq
  refine G.cse (cs' := (0, 0)) rfl ?_
  show GZ _ _ _ _ _ _ _ 15 _ (.int r7 :: []) _ _
  refine G_istore (lv' := [some (.ref l0), some (.int l1), some (.int l2), some (.int v5), some (.int r7), none, none, none, none]) dX3_prepareBehind_15 (Nat.le_of_ble_eq_true rfl) rfl ?_
  refine G_iload dX3_prepareBehind_17 rfl ?_
  have hw := wp_if hw
  refine G_if_eq (tgt := 34) dX3_prepareBehind_19 rfl (fun c10 => ?_) (fun c10 => ?_)
  · have hw := hw.1 c10
    refine G_iload_n dX3_prepareBehind_34 rfl ?_
    refine G.less [some (.ref l0), some (.int l1), some (.int l2), some (.int v5), some (.int r7), none, none, none, none] ⟨rfl, ⟨rfl, ⟨rfl, ⟨rfl, ⟨rfl, trivial⟩⟩⟩⟩⟩ ?_
    exact f_X3_prepareBehind_35_ok hs _ _ _ _ _ _ h8 Q hw
  · have hw := hw.2 c10
    refine G_aload_n dX3_prepareBehind_22 rfl ?_
    obtain ⟨c11, hw⟩ := wp_ck hw
    refine G_getR fl_X3_state w_363 dX3_prepareBehind_23 c11 ?_
    obtain ⟨a12, ea12, hw⟩ := wp_rq hw
    refine G.sure ea12 ?_
    obtain ⟨c13, hw⟩ := wp_ck hw
    refine G_getNR fl_X4_fuel w_222 dX3_prepareBehind_26 c13 ?_
    obtain ⟨a14, ea14, hw⟩ := wp_rq hw
    refine G.sure ea14 ?_
    refine G_iload_n dX3_prepareBehind_29 rfl ?_
    obtain ⟨c15, hw⟩ := wp_ck hw
    obtain ⟨c16, hw⟩ := wp_ck hw
    refine G_iaload dX3_prepareBehind_30 c15 c16 ?_
    refine G_goto (tgt := 35) dX3_prepareBehind_31 rfl ?_
    refine G.less [some (.ref l0), some (.int l1), some (.int l2), some (.int v5), some (.int r7), none, none, none, none] ⟨rfl, ⟨rfl, ⟨rfl, ⟨rfl, ⟨rfl, trivial⟩⟩⟩⟩⟩ ?_
    exact f_X3_prepareBehind_35_ok hs _ _ _ _ _ _ h8 Q hw
set_option maxHeartbeats 4000000 in
set_option maxRecDepth 100000 in
theorem f_X3_prepare_51_ok {Γ : GX} (hs : SF Γ) {N : Nat} {K_15 : Nat → Int32 → Int32 → PH → Option (Unit × PH)} (hK_15 : ∀ (l0 : Nat) (l1 : Int32) (l2 : Int32) (h : PH) (Q : Unit → PH → Prop), wp (K_15 l0 l1 l2 h) Q → G Γ yX3_prepare cX3_prepare 3 none (6, 0, 0) 15 [some (.ref l0), some (.int l1), some (.int l2)] [] h (0, 0) (q_u Q)) (l0 : Nat) (l1 : Int32) (l2 : Int32) (h : PH) (Q : Unit → PH → Prop) (hw : wp (f_X3_prepare_51 N K_15 l0 l1 l2 h) Q) : G Γ yX3_prepare cX3_prepare 3 none (6, 0, 0) 51 [some (.ref l0), some (.int l1), some (.int l2)] [] h (0, 0) (q_u Q) := by
  unfold f_X3_prepare_51 at hw
  obtain ⟨v1, ev1⟩ : ∃ z : Int32, z = l2 + (1 : Int32) := ⟨_, rfl⟩
  have hw := wp_bd hw v1 ev1
  refine G_iinc (v := v1) (lv' := [some (.ref l0), some (.int l1), some (.int v1)]) dX3_prepare_51 rfl (by rw [ev1]; rfl) (Nat.le_of_ble_eq_true rfl) rfl ?_
  refine G_goto (tgt := 15) dX3_prepare_54 rfl ?_
  refine G.less [some (.ref l0), some (.int l1), some (.int v1)] ⟨rfl, ⟨rfl, ⟨rfl, trivial⟩⟩⟩ ?_
  exact hK_15 _ _ _ h Q hw
set_option maxHeartbeats 4000000 in
set_option maxRecDepth 100000 in
theorem f_X3_prepare_15_bok {Γ : GX} (hs : SF Γ) {N : Nat} {K_15 : Nat → Int32 → Int32 → PH → Option (Unit × PH)} (hK_15 : ∀ (l0 : Nat) (l1 : Int32) (l2 : Int32) (h : PH) (Q : Unit → PH → Prop), wp (K_15 l0 l1 l2 h) Q → G Γ yX3_prepare cX3_prepare 3 none (6, 0, 0) 15 [some (.ref l0), some (.int l1), some (.int l2)] [] h (0, 0) (q_u Q)) (l0 : Nat) (l1 : Int32) (l2 : Int32) (h : PH) (Q : Unit → PH → Prop) (hw : wp (f_X3_prepare_15_b N K_15 l0 l1 l2 h) Q) : G Γ yX3_prepare cX3_prepare 3 none (6, 0, 0) 15 [some (.ref l0), some (.int l1), some (.int l2)] [] h (0, 0) (q_u Q) := by
  unfold f_X3_prepare_15_b at hw
  refine G_iload_n dX3_prepare_15 rfl ?_
  refine G_aload_n dX3_prepare_16 rfl ?_
  obtain ⟨c1, hw⟩ := wp_ck hw
  refine G_getR fl_X3_valley w_362 dX3_prepare_17 c1 ?_
  obtain ⟨a2, ea2, hw⟩ := wp_rq hw
  refine G.sure ea2 ?_
  obtain ⟨c3, hw⟩ := wp_ck hw
  refine G_getNR fl_X6_many w_427 dX3_prepare_20 c3 ?_
  obtain ⟨a4, ea4, hw⟩ := wp_rq hw
  refine G.sure ea4 ?_
  refine G_iconst (v := (0 : Int32)) dX3_prepare_23 (by decide) ?_
  obtain ⟨c5, hw⟩ := wp_ck hw
  obtain ⟨c6, hw⟩ := wp_ck hw
  refine G_ialoadK (k := 0) dX3_prepare_24 c5 (by decide) rfl c6 ?_
  have hw := wp_if hw
  refine G_icmp_ge (tgt := 57) dX3_prepare_25 rfl (fun c7 => ?_) (fun c7 => ?_)
  · have hw := hw.1 c7
    exact G_vreturn rfl dX3_prepare_57 ⟨rfl, wp_ret hw⟩
  · have hw := hw.2 c7
    refine G_aload_n dX3_prepare_28 rfl ?_
    refine G_getR fl_X3_state w_363 dX3_prepare_29 c1 ?_
    obtain ⟨a8, ea8, hw⟩ := wp_rq hw
    refine G.sure ea8 ?_
    refine G_aload_n dX3_prepare_32 rfl ?_
    refine G_getR fl_X3_houses w_353 dX3_prepare_33 c1 ?_
    obtain ⟨a9, ea9, hw⟩ := wp_rq hw
    refine G.sure ea9 ?_
    refine G_iload_n dX3_prepare_36 rfl ?_
    obtain ⟨c10, hw⟩ := wp_ck hw
    obtain ⟨c11, hw⟩ := wp_ck hw
    refine G_iaload dX3_prepare_37 c10 c11 ?_
    refine G_iload_n dX3_prepare_38 rfl ?_
    obtain ⟨c14, hw⟩ := wp_ck hw
    refine G_callV (As := [.int (hI h a9 (ix l1)), .int l2]) (s_X4_canLight hs a8 (hI h a9 (ix l1)) l2 h _ (wp_cl hw)) ca_X4_canLight w_1020 w_1021 (ci := 4) rfl (by decide) w_1128 c14 (Nat.le_of_ble_eq_true rfl) (Nat.le_of_ble_eq_true rfl) rfl (Nat.le_of_ble_eq_true rfl) (Nat.le_of_ble_eq_true rfl) (Nat.le_of_ble_eq_true rfl) dX3_prepare_39 rfl (fun v h13 hq => ?_)
    obtain ⟨r12, rfl, hw⟩ := hq
    refine G.cse (cs' := (0, 0)) rfl ?_
    show GZ _ _ _ _ _ _ _ 42 _ (.int r12 :: []) _ _
    have hw := wp_if hw
    refine G_if_eq (tgt := 51) dX3_prepare_42 rfl (fun c15 => ?_) (fun c15 => ?_)
    · have hw := hw.1 c15
      refine G.less [some (.ref l0), some (.int l1), some (.int l2)] ⟨rfl, ⟨rfl, ⟨rfl, trivial⟩⟩⟩ ?_
      exact f_X3_prepare_51_ok hs hK_15 _ _ _ h13 Q hw
    · have hw := hw.2 c15
      refine G_aload_n dX3_prepare_45 rfl ?_
      refine G_iload_n dX3_prepare_46 rfl ?_
      refine G_iload_n dX3_prepare_47 rfl ?_
      obtain ⟨c18, hw⟩ := wp_ck hw
      refine G_callV (As := [.int l1, .int l2]) (s_X3_prepareBehind hs l0 l1 l2 h13 _ (wp_cl hw)) ca_X3_prepareBehind w_1118 w_26 (ci := 3) rfl (by decide) w_1116 c18 (Nat.le_of_ble_eq_true rfl) (Nat.le_of_ble_eq_true rfl) rfl (Nat.le_of_ble_eq_true rfl) (Nat.le_of_ble_eq_true rfl) (Nat.le_of_ble_eq_true rfl) dX3_prepare_48 rfl (fun v h17 hq => ?_)
      obtain ⟨rfl, hw⟩ := hq
      refine G.cse (cs' := (0, 0)) rfl ?_
      show GZ _ _ _ _ _ _ _ 51 _ [] _ _
      refine G.less [some (.ref l0), some (.int l1), some (.int l2)] ⟨rfl, ⟨rfl, ⟨rfl, trivial⟩⟩⟩ ?_
      exact f_X3_prepare_51_ok hs hK_15 _ _ _ h17 Q hw
theorem f_X3_prepare_15_ok {Γ : GX} (hs : SF Γ) {N : Nat} : ∀ (n : Nat) (l0 : Nat) (l1 : Int32) (l2 : Int32) (h : PH) (Q : Unit → PH → Prop), wp (f_X3_prepare_15 N n l0 l1 l2 h) Q → G Γ yX3_prepare cX3_prepare 3 none (6, 0, 0) 15 [some (.ref l0), some (.int l1), some (.int l2)] [] h (0, 0) (q_u Q)
  | 0, _, _, _, _, Q, hw => (wp_no hw).elim
  | n + 1, l0, l1, l2, h, Q, hw => f_X3_prepare_15_bok (N := N) hs (f_X3_prepare_15_ok (N := N) hs n) l0 l1 l2 h Q hw
set_option maxHeartbeats 4000000 in
set_option maxRecDepth 100000 in
theorem s_X3_prepare {Γ : GX} (hs : SF Γ) {N : Nat} (l0 : Nat) (l1 : Int32) (h : PH) (Q : Unit → PH → Prop) (hw : wp (f_X3_prepare N l0 l1 h) Q) : Spec Γ yX3_prepare cX3_prepare 3 none (6, 0, 0) [.ref l0, .int l1] h (q_u Q) := by
  refine Spec.of (by decide) (Nat.le_of_ble_eq_true rfl) [some (.ref l0), some (.int l1), none] rfl ?_
  unfold f_X3_prepare at hw
  refine G_aload_n dX3_prepare_0 rfl ?_
  obtain ⟨c1, hw⟩ := wp_ck hw
  refine G_getR fl_X3_shows w_356 dX3_prepare_1 c1 ?_
  obtain ⟨a2, ea2, hw⟩ := wp_rq hw
  refine G.sure ea2 ?_
  refine G_iload_n dX3_prepare_4 rfl ?_
  refine G_iconst (v := (0 : Int32)) dX3_prepare_5 (by decide) ?_
  obtain ⟨c3, hw⟩ := wp_ck hw
  obtain ⟨c4, hw⟩ := wp_ck hw
  refine G_iastore dX3_prepare_6 c3 c4 ?_
  refine G.nmh fun h5 eh5 => ?_
  have hw := wp_bd hw h5 eh5
  refine G_aload_n dX3_prepare_7 rfl ?_
  refine G_iload_n dX3_prepare_8 rfl ?_
  refine G_iconst (v := (-1 : Int32)) dX3_prepare_9 (by decide) ?_
  obtain ⟨c8, hw⟩ := wp_ck hw
  refine G_callV (As := [.int l1, .int (-1 : Int32)]) (s_X3_prepareBehind hs l0 l1 (-1 : Int32) h5 _ (wp_cl hw)) ca_X3_prepareBehind w_1118 w_26 (ci := 3) rfl (by decide) w_1116 c8 (Nat.le_of_ble_eq_true rfl) (Nat.le_of_ble_eq_true rfl) rfl (Nat.le_of_ble_eq_true rfl) (Nat.le_of_ble_eq_true rfl) (Nat.le_of_ble_eq_true rfl) dX3_prepare_10 rfl (fun v h7 hq => ?_)
  obtain ⟨rfl, hw⟩ := hq
  refine G.cse (cs' := (0, 0)) rfl ?_
  show GZ _ _ _ _ _ _ _ 13 _ [] _ _
  refine G_iconst (v := (0 : Int32)) dX3_prepare_13 (by decide) ?_
  refine G_istore_n (lv' := [some (.ref l0), some (.int l1), some (.int (0 : Int32))]) dX3_prepare_14 (Nat.le_of_ble_eq_true rfl) rfl ?_
  refine G.less [some (.ref l0), some (.int l1), some (.int (0 : Int32))] ⟨rfl, ⟨rfl, ⟨rfl, trivial⟩⟩⟩ ?_
  exact f_X3_prepare_15_ok hs N _ _ _ h7 Q hw
set_option maxHeartbeats 4000000 in
set_option maxRecDepth 100000 in
theorem f_X3_note_114_ok {Γ : GX} (hs : SF Γ) {d : Nat} {R_X3_note : Nat → Int32 → Int32 → Int32 → Int32 → PH → Option (Unit × PH)} (hR_X3_note : ∀ (z0 : Nat) (z1 : Int32) (z2 : Int32) (z3 : Int32) (z4 : Int32) (h : PH) (Q : Unit → PH → Prop), wp (R_X3_note z0 z1 z2 z3 z4 h) Q → Spec Γ yX3_note cX3_note 8 none (3 + d, 0, 0) [.ref z0, .int z1, .int z2, .int z3, .int z4] h (q_u Q)) {N : Nat} {K_3 : Nat → Int32 → Int32 → Int32 → Int32 → Int32 → PH → Option (Unit × PH)} (hK_3 : ∀ (l0 : Nat) (l1 : Int32) (l2 : Int32) (l3 : Int32) (l4 : Int32) (l5 : Int32) (h : PH) (Q : Unit → PH → Prop), wp (K_3 l0 l1 l2 l3 l4 l5 h) Q → G Γ yX3_note cX3_note 8 none (3 + (d + 1), 0, 0) 3 [some (.ref l0), some (.int l1), some (.int l2), some (.int l3), some (.int l4), some (.int l5), none, none] [] h (0, 0) (q_u Q)) (l0 : Nat) (l1 : Int32) (l2 : Int32) (l3 : Int32) (l4 : Int32) (l5 : Int32) (h : PH) (Q : Unit → PH → Prop) (hw : wp (f_X3_note_114 R_X3_note N K_3 l0 l1 l2 l3 l4 l5 h) Q) : G Γ yX3_note cX3_note 8 none (3 + (d + 1), 0, 0) 114 [some (.ref l0), some (.int l1), some (.int l2), some (.int l3), some (.int l4), some (.int l5), none, none] [] h (0, 0) (q_u Q) := by
  unfold f_X3_note_114 at hw
  obtain ⟨v1, ev1⟩ : ∃ z : Int32, z = l5 + (1 : Int32) := ⟨_, rfl⟩
  have hw := wp_bd hw v1 ev1
  refine G_iinc (v := v1) (lv' := [some (.ref l0), some (.int l1), some (.int l2), some (.int l3), some (.int l4), some (.int v1), none, none]) dX3_note_114 rfl (by rw [ev1]; rfl) (Nat.le_of_ble_eq_true rfl) rfl ?_
  refine G_goto (tgt := 3) dX3_note_117 rfl ?_
  refine G.less [some (.ref l0), some (.int l1), some (.int l2), some (.int l3), some (.int l4), some (.int v1), none, none] ⟨rfl, ⟨rfl, ⟨rfl, ⟨rfl, ⟨rfl, ⟨rfl, trivial⟩⟩⟩⟩⟩⟩ ?_
  exact hK_3 _ _ _ _ _ _ h Q hw
set_option maxHeartbeats 4000000 in
set_option maxRecDepth 100000 in
theorem f_X3_note_3_bok {Γ : GX} (hs : SF Γ) {d : Nat} {R_X3_note : Nat → Int32 → Int32 → Int32 → Int32 → PH → Option (Unit × PH)} (hR_X3_note : ∀ (z0 : Nat) (z1 : Int32) (z2 : Int32) (z3 : Int32) (z4 : Int32) (h : PH) (Q : Unit → PH → Prop), wp (R_X3_note z0 z1 z2 z3 z4 h) Q → Spec Γ yX3_note cX3_note 8 none (3 + d, 0, 0) [.ref z0, .int z1, .int z2, .int z3, .int z4] h (q_u Q)) {N : Nat} {K_3 : Nat → Int32 → Int32 → Int32 → Int32 → Int32 → PH → Option (Unit × PH)} (hK_3 : ∀ (l0 : Nat) (l1 : Int32) (l2 : Int32) (l3 : Int32) (l4 : Int32) (l5 : Int32) (h : PH) (Q : Unit → PH → Prop), wp (K_3 l0 l1 l2 l3 l4 l5 h) Q → G Γ yX3_note cX3_note 8 none (3 + (d + 1), 0, 0) 3 [some (.ref l0), some (.int l1), some (.int l2), some (.int l3), some (.int l4), some (.int l5), none, none] [] h (0, 0) (q_u Q)) (l0 : Nat) (l1 : Int32) (l2 : Int32) (l3 : Int32) (l4 : Int32) (l5 : Int32) (h : PH) (Q : Unit → PH → Prop) (hw : wp (f_X3_note_3_b R_X3_note N K_3 l0 l1 l2 l3 l4 l5 h) Q) : G Γ yX3_note cX3_note 8 none (3 + (d + 1), 0, 0) 3 [some (.ref l0), some (.int l1), some (.int l2), some (.int l3), some (.int l4), some (.int l5), none, none] [] h (0, 0) (q_u Q) := by
  unfold f_X3_note_3_b at hw
  refine G_iload dX3_note_3 rfl ?_
  refine G_bipush (v := (11 : Int32)) dX3_note_5 (by decide) ?_
  have hw := wp_if hw
  refine G_icmp_ge (tgt := 120) dX3_note_7 rfl (fun c1 => ?_) (fun c1 => ?_)
  · have hw := hw.1 c1
    exact G_vreturn rfl dX3_note_120 ⟨rfl, wp_ret hw⟩
  · have hw := hw.2 c1
    refine G_aload_n dX3_note_10 rfl ?_
    obtain ⟨c2, hw⟩ := wp_ck hw
    refine G_getR fl_X3_shows w_356 dX3_note_11 c2 ?_
    obtain ⟨a3, ea3, hw⟩ := wp_rq hw
    refine G.sure ea3 ?_
    refine G_iload_n dX3_note_14 rfl ?_
    obtain ⟨c4, hw⟩ := wp_ck hw
    obtain ⟨c5, hw⟩ := wp_ck hw
    refine G_iaload dX3_note_15 c4 c5 ?_
    refine G_iload dX3_note_16 rfl ?_
    refine G_ishr dX3_note_18 ?_
    refine G_iconst (v := (1 : Int32)) dX3_note_19 (by decide) ?_
    refine G_iand dX3_note_20 ?_
    have hw := wp_if hw
    refine G_if_eq (tgt := 114) dX3_note_21 rfl (fun c6 => ?_) (fun c6 => ?_)
    · have hw := hw.1 c6
      refine G.less [some (.ref l0), some (.int l1), some (.int l2), some (.int l3), some (.int l4), some (.int l5), none, none] ⟨rfl, ⟨rfl, ⟨rfl, ⟨rfl, ⟨rfl, ⟨rfl, trivial⟩⟩⟩⟩⟩⟩ ?_
      exact f_X3_note_114_ok hs hR_X3_note hK_3 _ _ _ _ _ _ h Q hw
    · have hw := hw.2 c6
      refine G_iload_n dX3_note_24 rfl ?_
      refine G_aload_n dX3_note_25 rfl ?_
      refine G_getR fl_X3_darkThen w_357 dX3_note_26 c2 ?_
      obtain ⟨a7, ea7, hw⟩ := wp_rq hw
      refine G.sure ea7 ?_
      refine G_iload_n dX3_note_29 rfl ?_
      refine G_bipush (v := (11 : Int32)) dX3_note_30 (by decide) ?_
      refine G_imul dX3_note_32 ?_
      refine G_iload dX3_note_33 rfl ?_
      refine G_iadd dX3_note_35 ?_
      obtain ⟨c8, hw⟩ := wp_ck hw
      obtain ⟨c9, hw⟩ := wp_ck hw
      refine G_iaload dX3_note_36 c8 c9 ?_
      refine G_iadd dX3_note_37 ?_
      refine G.topi fun v10 ev10 => ?_
      have hw := wp_bd hw v10 ev10
      refine G_istore (lv' := [some (.ref l0), some (.int l1), some (.int l2), some (.int l3), some (.int l4), some (.int l5), some (.int v10), none]) dX3_note_38 (Nat.le_of_ble_eq_true rfl) rfl ?_
      refine G_iload dX3_note_40 rfl ?_
      refine G_aload_n dX3_note_42 rfl ?_
      refine G_getR fl_X3_sweetThen w_358 dX3_note_43 c2 ?_
      obtain ⟨a11, ea11, hw⟩ := wp_rq hw
      refine G.sure ea11 ?_
      refine G_iload_n dX3_note_46 rfl ?_
      refine G_bipush (v := (11 : Int32)) dX3_note_47 (by decide) ?_
      refine G_imul dX3_note_49 ?_
      refine G_iload dX3_note_50 rfl ?_
      refine G_iadd dX3_note_52 ?_
      obtain ⟨c12, hw⟩ := wp_ck hw
      obtain ⟨c13, hw⟩ := wp_ck hw
      refine G_iaload dX3_note_53 c12 c13 ?_
      refine G_iadd dX3_note_54 ?_
      refine G.topi fun v14 ev14 => ?_
      have hw := wp_bd hw v14 ev14
      refine G_istore (lv' := [some (.ref l0), some (.int l1), some (.int l2), some (.int l3), some (.int l4), some (.int l5), some (.int v10), some (.int v14)]) dX3_note_55 (Nat.le_of_ble_eq_true rfl) rfl ?_
      refine G_iload_n dX3_note_57 rfl ?_
      refine G_iconst (v := (3 : Int32)) dX3_note_58 (by decide) ?_
      have hw := wp_if hw
      refine G_icmp_ge (tgt := 83) dX3_note_59 rfl (fun c15 => ?_) (fun c15 => ?_)
      · have hw := hw.1 c15
        refine G_aload_n dX3_note_83 rfl ?_
        refine G_getR fl_X3_valley w_362 dX3_note_84 c2 ?_
        obtain ⟨a16, ea16, hw⟩ := wp_rq hw
        refine G.sure ea16 ?_
        refine G_iload dX3_note_87 rfl ?_
        refine G_iload dX3_note_89 rfl ?_
        obtain ⟨c19, hw⟩ := wp_ck hw
        refine G_callV (As := [.int v10, .int v14]) (s_X6_signOf hs a16 v10 v14 h _ (wp_cl hw)) ca_X6_signOf w_1003 w_1004 (ci := 6) rfl (by decide) w_1133 c19 (by show 2 + 1 ≤ 3 + (d + 1); omega) (Nat.le_of_ble_eq_true rfl) rfl (Nat.le_of_ble_eq_true rfl) (Nat.le_of_ble_eq_true rfl) (Nat.le_of_ble_eq_true rfl) dX3_note_91 rfl (fun v h18 hq => ?_)
        obtain ⟨r17, rfl, hw⟩ := hq
        refine G.cse (cs' := (0, 0)) rfl ?_
        show GZ _ _ _ _ _ _ _ 94 _ (.int r17 :: []) _ _
        refine G_aload_n dX3_note_94 rfl ?_
        obtain ⟨c20, hw⟩ := wp_ck hw
        refine G_getI fl_X3_second w_366 dX3_note_95 c20 ?_
        have hw := wp_if hw
        refine G_icmp_ne (tgt := 114) dX3_note_98 rfl (fun c21 => ?_) (fun c21 => ?_)
        · have hw := hw.2 c21
          refine G.less [some (.ref l0), some (.int l1), some (.int l2), some (.int l3), some (.int l4), some (.int l5), none, none] ⟨rfl, ⟨rfl, ⟨rfl, ⟨rfl, ⟨rfl, ⟨rfl, trivial⟩⟩⟩⟩⟩⟩ ?_
          exact f_X3_note_114_ok hs hR_X3_note hK_3 _ _ _ _ _ _ h18 Q hw
        · have hw := hw.1 c21
          refine G_aload_n dX3_note_101 rfl ?_
          refine G_getR fl_X3_reading w_361 dX3_note_102 c20 ?_
          obtain ⟨a22, ea22, hw⟩ := wp_rq hw
          refine G.sure ea22 ?_
          refine G_iload_n dX3_note_105 rfl ?_
          refine G_dup2 dX3_note_106 rfl rfl ?_
          obtain ⟨c23, hw⟩ := wp_ck hw
          obtain ⟨c24, hw⟩ := wp_ck hw
          refine G_iaload dX3_note_107 c23 c24 ?_
          refine G_iconst (v := (1 : Int32)) dX3_note_108 (by decide) ?_
          refine G_iload dX3_note_109 rfl ?_
          refine G_ishl dX3_note_111 ?_
          refine G_ior dX3_note_112 ?_
          refine G_iastore dX3_note_113 c23 c24 ?_
          refine G.nmh fun h25 eh25 => ?_
          have hw := wp_bd hw h25 eh25
          refine G.less [some (.ref l0), some (.int l1), some (.int l2), some (.int l3), some (.int l4), some (.int l5), none, none] ⟨rfl, ⟨rfl, ⟨rfl, ⟨rfl, ⟨rfl, ⟨rfl, trivial⟩⟩⟩⟩⟩⟩ ?_
          exact f_X3_note_114_ok hs hR_X3_note hK_3 _ _ _ _ _ _ h25 Q hw
      · have hw := hw.2 c15
        refine G_aload_n dX3_note_62 rfl ?_
        refine G_iload_n dX3_note_63 rfl ?_
        refine G_iconst (v := (1 : Int32)) dX3_note_64 (by decide) ?_
        refine G_iadd dX3_note_65 ?_
        refine G_iload_n dX3_note_66 rfl ?_
        refine G_bipush (v := (11 : Int32)) dX3_note_67 (by decide) ?_
        refine G_imul dX3_note_69 ?_
        refine G_iload dX3_note_70 rfl ?_
        refine G_iadd dX3_note_72 ?_
        refine G_iload dX3_note_73 rfl ?_
        refine G_iload dX3_note_75 rfl ?_
        refine G_callV (As := [.int (l1 + (1 : Int32)), .int ((l2 * (11 : Int32)) + l5), .int v10, .int v14]) (hR_X3_note l0 (l1 + (1 : Int32)) ((l2 * (11 : Int32)) + l5) v10 v14 h _ (wp_cl hw)) ca_X3_note w_1131 w_28 (ci := 3) rfl (by decide) w_1129 c2 (Nat.le_refl _) (Nat.le_of_ble_eq_true rfl) rfl (Nat.le_of_ble_eq_true rfl) (Nat.le_of_ble_eq_true rfl) (Nat.le_of_ble_eq_true rfl) dX3_note_77 rfl (fun v h27 hq => ?_)
        obtain ⟨rfl, hw⟩ := hq
        refine G.cse (cs' := (0, 0)) rfl ?_
        show GZ _ _ _ _ _ _ _ 80 _ [] _ _
        refine G_goto (tgt := 114) dX3_note_80 rfl ?_
        refine G.less [some (.ref l0), some (.int l1), some (.int l2), some (.int l3), some (.int l4), some (.int l5), none, none] ⟨rfl, ⟨rfl, ⟨rfl, ⟨rfl, ⟨rfl, ⟨rfl, trivial⟩⟩⟩⟩⟩⟩ ?_
        exact f_X3_note_114_ok hs hR_X3_note hK_3 _ _ _ _ _ _ h27 Q hw
theorem f_X3_note_3_ok {Γ : GX} (hs : SF Γ) {d : Nat} {R_X3_note : Nat → Int32 → Int32 → Int32 → Int32 → PH → Option (Unit × PH)} (hR_X3_note : ∀ (z0 : Nat) (z1 : Int32) (z2 : Int32) (z3 : Int32) (z4 : Int32) (h : PH) (Q : Unit → PH → Prop), wp (R_X3_note z0 z1 z2 z3 z4 h) Q → Spec Γ yX3_note cX3_note 8 none (3 + d, 0, 0) [.ref z0, .int z1, .int z2, .int z3, .int z4] h (q_u Q)) {N : Nat} : ∀ (n : Nat) (l0 : Nat) (l1 : Int32) (l2 : Int32) (l3 : Int32) (l4 : Int32) (l5 : Int32) (h : PH) (Q : Unit → PH → Prop), wp (f_X3_note_3 R_X3_note N n l0 l1 l2 l3 l4 l5 h) Q → G Γ yX3_note cX3_note 8 none (3 + (d + 1), 0, 0) 3 [some (.ref l0), some (.int l1), some (.int l2), some (.int l3), some (.int l4), some (.int l5), none, none] [] h (0, 0) (q_u Q)
  | 0, _, _, _, _, _, _, _, Q, hw => (wp_no hw).elim
  | n + 1, l0, l1, l2, l3, l4, l5, h, Q, hw => f_X3_note_3_bok (N := N) hs hR_X3_note (f_X3_note_3_ok (N := N) hs hR_X3_note n) l0 l1 l2 l3 l4 l5 h Q hw
set_option maxHeartbeats 4000000 in
set_option maxRecDepth 100000 in
theorem s_X3_note_b {Γ : GX} (hs : SF Γ) {d : Nat} {R_X3_note : Nat → Int32 → Int32 → Int32 → Int32 → PH → Option (Unit × PH)} (hR_X3_note : ∀ (z0 : Nat) (z1 : Int32) (z2 : Int32) (z3 : Int32) (z4 : Int32) (h : PH) (Q : Unit → PH → Prop), wp (R_X3_note z0 z1 z2 z3 z4 h) Q → Spec Γ yX3_note cX3_note 8 none (3 + d, 0, 0) [.ref z0, .int z1, .int z2, .int z3, .int z4] h (q_u Q)) {N : Nat} (l0 : Nat) (l1 : Int32) (l2 : Int32) (l3 : Int32) (l4 : Int32) (h : PH) (Q : Unit → PH → Prop) (hw : wp (f_X3_note_b R_X3_note N l0 l1 l2 l3 l4 h) Q) : Spec Γ yX3_note cX3_note 8 none (3 + (d + 1), 0, 0) [.ref l0, .int l1, .int l2, .int l3, .int l4] h (q_u Q) := by
  refine Spec.of (by decide) (Nat.le_of_ble_eq_true rfl) [some (.ref l0), some (.int l1), some (.int l2), some (.int l3), some (.int l4), none, none, none] rfl ?_
  unfold f_X3_note_b at hw
  refine G_iconst (v := (0 : Int32)) dX3_note_0 (by decide) ?_
  refine G_istore (lv' := [some (.ref l0), some (.int l1), some (.int l2), some (.int l3), some (.int l4), some (.int (0 : Int32)), none, none]) dX3_note_1 (Nat.le_of_ble_eq_true rfl) rfl ?_
  refine G.less [some (.ref l0), some (.int l1), some (.int l2), some (.int l3), some (.int l4), some (.int (0 : Int32)), none, none] ⟨rfl, ⟨rfl, ⟨rfl, ⟨rfl, ⟨rfl, ⟨rfl, trivial⟩⟩⟩⟩⟩⟩ ?_
  exact f_X3_note_3_ok hs hR_X3_note N _ _ _ _ _ _ h Q hw
theorem s_X3_note {Γ : GX} (hs : SF Γ) {N : Nat} : ∀ (d : Nat) (z0 : Nat) (z1 : Int32) (z2 : Int32) (z3 : Int32) (z4 : Int32) (h : PH) (Q : Unit → PH → Prop), wp (f_X3_note d N z0 z1 z2 z3 z4 h) Q → Spec Γ yX3_note cX3_note 8 none (3 + d, 0, 0) [.ref z0, .int z1, .int z2, .int z3, .int z4] h (q_u Q)
  | 0, _, _, _, _, _, _, Q, hw => (wp_no hw).elim
  | d + 1, z0, z1, z2, z3, z4, h, Q, hw => s_X3_note_b hs (s_X3_note hs d) z0 z1 z2 z3 z4 h Q hw
set_option maxHeartbeats 4000000 in
set_option maxRecDepth 100000 in
theorem f_X3_fewestThen_156_ok {Γ : GX} (hs : SF Γ) {d : Nat} {R_X3_fewestThen : Nat → Int32 → Int32 → Int32 → Int32 → PH → Option (Int32 × PH)} (hR_X3_fewestThen : ∀ (z0 : Nat) (z1 : Int32) (z2 : Int32) (z3 : Int32) (z4 : Int32) (h : PH) (Q : Int32 → PH → Prop), wp (R_X3_fewestThen z0 z1 z2 z3 z4 h) Q → Spec Γ yX3_fewestThen cX3_fewestThen 8 (some .int) (1 + d, 0, 0) [.ref z0, .int z1, .int z2, .int z3, .int z4] h (q_i Q)) {N : Nat} {K_96 : Nat → Int32 → Int32 → Int32 → Int32 → Int32 → Int32 → PH → Option (Int32 × PH)} (hK_96 : ∀ (l0 : Nat) (l1 : Int32) (l2 : Int32) (l3 : Int32) (l5 : Int32) (l6 : Int32) (l7 : Int32) (h : PH) (Q : Int32 → PH → Prop), wp (K_96 l0 l1 l2 l3 l5 l6 l7 h) Q → G Γ yX3_fewestThen cX3_fewestThen 8 (some .int) (1 + (d + 1), 0, 0) 96 [some (.ref l0), some (.int l1), some (.int l2), some (.int l3), none, some (.int l5), some (.int l6), some (.int l7)] [] h (0, 0) (q_i Q)) (l0 : Nat) (l1 : Int32) (l2 : Int32) (l3 : Int32) (l5 : Int32) (l6 : Int32) (l7 : Int32) (h : PH) (Q : Int32 → PH → Prop) (hw : wp (f_X3_fewestThen_156 R_X3_fewestThen N K_96 l0 l1 l2 l3 l5 l6 l7 h) Q) : G Γ yX3_fewestThen cX3_fewestThen 8 (some .int) (1 + (d + 1), 0, 0) 156 [some (.ref l0), some (.int l1), some (.int l2), some (.int l3), none, some (.int l5), some (.int l6), some (.int l7)] [] h (0, 0) (q_i Q) := by
  unfold f_X3_fewestThen_156 at hw
  obtain ⟨v1, ev1⟩ : ∃ z : Int32, z = l7 + (1 : Int32) := ⟨_, rfl⟩
  have hw := wp_bd hw v1 ev1
  refine G_iinc (v := v1) (lv' := [some (.ref l0), some (.int l1), some (.int l2), some (.int l3), none, some (.int l5), some (.int l6), some (.int v1)]) dX3_fewestThen_156 rfl (by rw [ev1]; rfl) (Nat.le_of_ble_eq_true rfl) rfl ?_
  refine G_goto (tgt := 96) dX3_fewestThen_159 rfl ?_
  refine G.less [some (.ref l0), some (.int l1), some (.int l2), some (.int l3), none, some (.int l5), some (.int l6), some (.int v1)] ⟨rfl, ⟨rfl, ⟨rfl, ⟨rfl, ⟨rfl, ⟨rfl, ⟨rfl, trivial⟩⟩⟩⟩⟩⟩⟩ ?_
  exact hK_96 _ _ _ _ _ _ _ h Q hw
set_option maxHeartbeats 4000000 in
set_option maxRecDepth 100000 in
theorem f_X3_fewestThen_96_bok {Γ : GX} (hs : SF Γ) {d : Nat} {R_X3_fewestThen : Nat → Int32 → Int32 → Int32 → Int32 → PH → Option (Int32 × PH)} (hR_X3_fewestThen : ∀ (z0 : Nat) (z1 : Int32) (z2 : Int32) (z3 : Int32) (z4 : Int32) (h : PH) (Q : Int32 → PH → Prop), wp (R_X3_fewestThen z0 z1 z2 z3 z4 h) Q → Spec Γ yX3_fewestThen cX3_fewestThen 8 (some .int) (1 + d, 0, 0) [.ref z0, .int z1, .int z2, .int z3, .int z4] h (q_i Q)) {N : Nat} {K_96 : Nat → Int32 → Int32 → Int32 → Int32 → Int32 → Int32 → PH → Option (Int32 × PH)} (hK_96 : ∀ (l0 : Nat) (l1 : Int32) (l2 : Int32) (l3 : Int32) (l5 : Int32) (l6 : Int32) (l7 : Int32) (h : PH) (Q : Int32 → PH → Prop), wp (K_96 l0 l1 l2 l3 l5 l6 l7 h) Q → G Γ yX3_fewestThen cX3_fewestThen 8 (some .int) (1 + (d + 1), 0, 0) 96 [some (.ref l0), some (.int l1), some (.int l2), some (.int l3), none, some (.int l5), some (.int l6), some (.int l7)] [] h (0, 0) (q_i Q)) (l0 : Nat) (l1 : Int32) (l2 : Int32) (l3 : Int32) (l5 : Int32) (l6 : Int32) (l7 : Int32) (h : PH) (Q : Int32 → PH → Prop) (hw : wp (f_X3_fewestThen_96_b R_X3_fewestThen N K_96 l0 l1 l2 l3 l5 l6 l7 h) Q) : G Γ yX3_fewestThen cX3_fewestThen 8 (some .int) (1 + (d + 1), 0, 0) 96 [some (.ref l0), some (.int l1), some (.int l2), some (.int l3), none, some (.int l5), some (.int l6), some (.int l7)] [] h (0, 0) (q_i Q) := by
  unfold f_X3_fewestThen_96_b at hw
  refine G_iload dX3_fewestThen_96 rfl ?_
  refine G_aload_n dX3_fewestThen_98 rfl ?_
  obtain ⟨c1, hw⟩ := wp_ck hw
  refine G_getR fl_X3_valley w_362 dX3_fewestThen_99 c1 ?_
  obtain ⟨a2, ea2, hw⟩ := wp_rq hw
  refine G.sure ea2 ?_
  obtain ⟨c3, hw⟩ := wp_ck hw
  refine G_getNR fl_X6_many w_427 dX3_fewestThen_102 c3 ?_
  obtain ⟨a4, ea4, hw⟩ := wp_rq hw
  refine G.sure ea4 ?_
  refine G_iconst (v := (0 : Int32)) dX3_fewestThen_105 (by decide) ?_
  obtain ⟨c5, hw⟩ := wp_ck hw
  obtain ⟨c6, hw⟩ := wp_ck hw
  refine G_ialoadK (k := 0) dX3_fewestThen_106 c5 (by decide) rfl c6 ?_
  have hw := wp_if hw
  refine G_icmp_ge (tgt := 162) dX3_fewestThen_107 rfl (fun c7 => ?_) (fun c7 => ?_)
  · have hw := hw.1 c7
    refine G_iload dX3_fewestThen_162 rfl ?_
    exact G_ireturn rfl dX3_fewestThen_164 ⟨_, rfl, wp_ret hw⟩
  · have hw := hw.2 c7
    refine G_iload_n dX3_fewestThen_110 rfl ?_
    refine G_iconst (v := (1 : Int32)) dX3_fewestThen_111 (by decide) ?_
    refine G_iadd dX3_fewestThen_112 ?_
    refine G_iload dX3_fewestThen_113 rfl ?_
    have hw := wp_if hw
    refine G_icmp_ge (tgt := 162) dX3_fewestThen_115 rfl (fun c8 => ?_) (fun c8 => ?_)
    · have hw := hw.1 c8
      refine G_iload dX3_fewestThen_162 rfl ?_
      exact G_ireturn rfl dX3_fewestThen_164 ⟨_, rfl, wp_ret hw⟩
    · have hw := hw.2 c8
      refine G_aload_n dX3_fewestThen_118 rfl ?_
      refine G_getR fl_X3_fresh w_360 dX3_fewestThen_119 c1 ?_
      obtain ⟨a9, ea9, hw⟩ := wp_rq hw
      refine G.sure ea9 ?_
      refine G_iload dX3_fewestThen_122 rfl ?_
      obtain ⟨c10, hw⟩ := wp_ck hw
      obtain ⟨c11, hw⟩ := wp_ck hw
      refine G_iaload dX3_fewestThen_124 c10 c11 ?_
      refine G_iload dX3_fewestThen_125 rfl ?_
      refine G_ishr dX3_fewestThen_127 ?_
      refine G_iconst (v := (1 : Int32)) dX3_fewestThen_128 (by decide) ?_
      refine G_iand dX3_fewestThen_129 ?_
      have hw := wp_if hw
      refine G_if_eq (tgt := 156) dX3_fewestThen_130 rfl (fun c12 => ?_) (fun c12 => ?_)
      · have hw := hw.1 c12
        refine G.less [some (.ref l0), some (.int l1), some (.int l2), some (.int l3), none, some (.int l5), some (.int l6), some (.int l7)] ⟨rfl, ⟨rfl, ⟨rfl, ⟨rfl, ⟨rfl, ⟨rfl, ⟨rfl, trivial⟩⟩⟩⟩⟩⟩⟩ ?_
        exact f_X3_fewestThen_156_ok hs hR_X3_fewestThen hK_96 _ _ _ _ _ _ _ h Q hw
      · have hw := hw.2 c12
        refine G_aload_n dX3_fewestThen_133 rfl ?_
        refine G_iload_n dX3_fewestThen_134 rfl ?_
        refine G_iconst (v := (1 : Int32)) dX3_fewestThen_135 (by decide) ?_
        refine G_iadd dX3_fewestThen_136 ?_
        refine G_iload_n dX3_fewestThen_137 rfl ?_
        refine G_bipush (v := (11 : Int32)) dX3_fewestThen_138 (by decide) ?_
        refine G_imul dX3_fewestThen_140 ?_
        refine G_iconst (v := (1 : Int32)) dX3_fewestThen_141 (by decide) ?_
        refine G_iadd dX3_fewestThen_142 ?_
        refine G_iload dX3_fewestThen_143 rfl ?_
        refine G_iadd dX3_fewestThen_145 ?_
        refine G_iload_n dX3_fewestThen_146 rfl ?_
        refine G_iconst (v := (1 : Int32)) dX3_fewestThen_147 (by decide) ?_
        refine G_iadd dX3_fewestThen_148 ?_
        refine G_iload dX3_fewestThen_149 rfl ?_
        refine G_callV (As := [.int (l1 + (1 : Int32)), .int (((l2 * (11 : Int32)) + (1 : Int32)) + l7), .int (l3 + (1 : Int32)), .int l6]) (hR_X3_fewestThen l0 (l1 + (1 : Int32)) (((l2 * (11 : Int32)) + (1 : Int32)) + l7) (l3 + (1 : Int32)) l6 h _ (wp_cl hw)) ca_X3_fewestThen w_1140 w_30 (ci := 3) rfl (by decide) w_1138 c1 (Nat.le_refl _) (Nat.le_of_ble_eq_true rfl) rfl (Nat.le_of_ble_eq_true rfl) (Nat.le_of_ble_eq_true rfl) (Nat.le_of_ble_eq_true rfl) dX3_fewestThen_151 rfl (fun v h14 hq => ?_)
        obtain ⟨r13, rfl, hw⟩ := hq
        refine G.cse (cs' := (0, 0)) rfl ?_
        show GZ _ _ _ _ _ _ _ 154 _ (.int r13 :: []) _ _
        refine G_istore (lv' := [some (.ref l0), some (.int l1), some (.int l2), some (.int l3), none, some (.int l5), some (.int r13), some (.int l7)]) dX3_fewestThen_154 (Nat.le_of_ble_eq_true rfl) rfl ?_
        refine G.less [some (.ref l0), some (.int l1), some (.int l2), some (.int l3), none, some (.int l5), some (.int r13), some (.int l7)] ⟨rfl, ⟨rfl, ⟨rfl, ⟨rfl, ⟨rfl, ⟨rfl, ⟨rfl, trivial⟩⟩⟩⟩⟩⟩⟩ ?_
        exact f_X3_fewestThen_156_ok hs hR_X3_fewestThen hK_96 _ _ _ _ _ _ _ h14 Q hw
theorem f_X3_fewestThen_96_ok {Γ : GX} (hs : SF Γ) {d : Nat} {R_X3_fewestThen : Nat → Int32 → Int32 → Int32 → Int32 → PH → Option (Int32 × PH)} (hR_X3_fewestThen : ∀ (z0 : Nat) (z1 : Int32) (z2 : Int32) (z3 : Int32) (z4 : Int32) (h : PH) (Q : Int32 → PH → Prop), wp (R_X3_fewestThen z0 z1 z2 z3 z4 h) Q → Spec Γ yX3_fewestThen cX3_fewestThen 8 (some .int) (1 + d, 0, 0) [.ref z0, .int z1, .int z2, .int z3, .int z4] h (q_i Q)) {N : Nat} : ∀ (n : Nat) (l0 : Nat) (l1 : Int32) (l2 : Int32) (l3 : Int32) (l5 : Int32) (l6 : Int32) (l7 : Int32) (h : PH) (Q : Int32 → PH → Prop), wp (f_X3_fewestThen_96 R_X3_fewestThen N n l0 l1 l2 l3 l5 l6 l7 h) Q → G Γ yX3_fewestThen cX3_fewestThen 8 (some .int) (1 + (d + 1), 0, 0) 96 [some (.ref l0), some (.int l1), some (.int l2), some (.int l3), none, some (.int l5), some (.int l6), some (.int l7)] [] h (0, 0) (q_i Q)
  | 0, _, _, _, _, _, _, _, _, Q, hw => (wp_no hw).elim
  | n + 1, l0, l1, l2, l3, l5, l6, l7, h, Q, hw => f_X3_fewestThen_96_bok (N := N) hs hR_X3_fewestThen (f_X3_fewestThen_96_ok (N := N) hs hR_X3_fewestThen n) l0 l1 l2 l3 l5 l6 l7 h Q hw
set_option maxHeartbeats 4000000 in
set_option maxRecDepth 100000 in
theorem s_X3_fewestThen_b {Γ : GX} (hs : SF Γ) {d : Nat} {R_X3_fewestThen : Nat → Int32 → Int32 → Int32 → Int32 → PH → Option (Int32 × PH)} (hR_X3_fewestThen : ∀ (z0 : Nat) (z1 : Int32) (z2 : Int32) (z3 : Int32) (z4 : Int32) (h : PH) (Q : Int32 → PH → Prop), wp (R_X3_fewestThen z0 z1 z2 z3 z4 h) Q → Spec Γ yX3_fewestThen cX3_fewestThen 8 (some .int) (1 + d, 0, 0) [.ref z0, .int z1, .int z2, .int z3, .int z4] h (q_i Q)) {N : Nat} (l0 : Nat) (l1 : Int32) (l2 : Int32) (l3 : Int32) (l4 : Int32) (h : PH) (Q : Int32 → PH → Prop) (hw : wp (f_X3_fewestThen_b R_X3_fewestThen N l0 l1 l2 l3 l4 h) Q) : Spec Γ yX3_fewestThen cX3_fewestThen 8 (some .int) (1 + (d + 1), 0, 0) [.ref l0, .int l1, .int l2, .int l3, .int l4] h (q_i Q) := by
  refine Spec.of (by decide) (Nat.le_of_ble_eq_true rfl) [some (.ref l0), some (.int l1), some (.int l2), some (.int l3), some (.int l4), none, none, none] rfl ?_
  unfold f_X3_fewestThen_b at hw
  refine G_iload_n dX3_fewestThen_0 rfl ?_
  refine G_bipush (v := (6 : Int32)) dX3_fewestThen_1 (by decide) ?_
  refine G_imul dX3_fewestThen_3 ?_
  refine G_aload_n dX3_fewestThen_4 rfl ?_
  obtain ⟨c1, hw⟩ := wp_ck hw
  refine G_getR fl_X3_row w_354 dX3_fewestThen_5 c1 ?_
  obtain ⟨a2, ea2, hw⟩ := wp_rq hw
  refine G.sure ea2 ?_
  refine G_iload_n dX3_fewestThen_8 rfl ?_
  obtain ⟨c3, hw⟩ := wp_ck hw
  obtain ⟨c4, hw⟩ := wp_ck hw
  refine G_iaload dX3_fewestThen_9 c3 c4 ?_
  refine G_iadd dX3_fewestThen_10 ?_
  refine G_iconst (v := (1 : Int32)) dX3_fewestThen_11 (by decide) ?_
  refine G_iadd dX3_fewestThen_12 ?_
  refine G.topi fun v5 ev5 => ?_
  have hw := wp_bd hw v5 ev5
  refine G_istore (lv' := [some (.ref l0), some (.int l1), some (.int l2), some (.int l3), some (.int l4), some (.int v5), none, none]) dX3_fewestThen_13 (Nat.le_of_ble_eq_true rfl) rfl ?_
  refine G_iload_n dX3_fewestThen_15 rfl ?_
  refine G_iconst (v := (3 : Int32)) dX3_fewestThen_16 (by decide) ?_
  have hw := wp_if hw
  refine G_icmp_lt (tgt := 69) dX3_fewestThen_17 rfl (fun c6 => ?_) (fun c6 => ?_)
  · have hw := hw.1 c6
    refine G_aload_n dX3_fewestThen_69 rfl ?_
    refine G_iload_n dX3_fewestThen_70 rfl ?_
    refine G_iconst (v := (1 : Int32)) dX3_fewestThen_71 (by decide) ?_
    refine G_iadd dX3_fewestThen_72 ?_
    refine G_iload_n dX3_fewestThen_73 rfl ?_
    refine G_bipush (v := (11 : Int32)) dX3_fewestThen_74 (by decide) ?_
    refine G_imul dX3_fewestThen_76 ?_
    refine G_aload_n dX3_fewestThen_77 rfl ?_
    refine G_getR fl_X3_idle w_359 dX3_fewestThen_78 c1 ?_
    obtain ⟨a7, ea7, hw⟩ := wp_rq hw
    refine G.sure ea7 ?_
    refine G_iload dX3_fewestThen_81 rfl ?_
    obtain ⟨c8, hw⟩ := wp_ck hw
    obtain ⟨c9, hw⟩ := wp_ck hw
    refine G_iaload dX3_fewestThen_83 c8 c9 ?_
    refine G_iadd dX3_fewestThen_84 ?_
    refine G_iload_n dX3_fewestThen_85 rfl ?_
    refine G_iload dX3_fewestThen_86 rfl ?_
    refine G_callV (As := [.int (l1 + (1 : Int32)), .int ((l2 * (11 : Int32)) + (hI h a7 (ix v5))), .int l3, .int l4]) (hR_X3_fewestThen l0 (l1 + (1 : Int32)) ((l2 * (11 : Int32)) + (hI h a7 (ix v5))) l3 l4 h _ (wp_cl hw)) ca_X3_fewestThen w_1140 w_30 (ci := 3) rfl (by decide) w_1138 c1 (Nat.le_refl _) (Nat.le_of_ble_eq_true rfl) rfl (Nat.le_of_ble_eq_true rfl) (Nat.le_of_ble_eq_true rfl) (Nat.le_of_ble_eq_true rfl) dX3_fewestThen_88 rfl (fun v h11 hq => ?_)
    obtain ⟨r10, rfl, hw⟩ := hq
    refine G.cse (cs' := (0, 0)) rfl ?_
    show GZ _ _ _ _ _ _ _ 91 _ (.int r10 :: []) _ _
    refine G_istore (lv' := [some (.ref l0), some (.int l1), some (.int l2), some (.int l3), some (.int l4), some (.int v5), some (.int r10), none]) dX3_fewestThen_91 (Nat.le_of_ble_eq_true rfl) rfl ?_
    refine G_iconst (v := (0 : Int32)) dX3_fewestThen_93 (by decide) ?_
    refine G_istore (lv' := [some (.ref l0), some (.int l1), some (.int l2), some (.int l3), some (.int l4), some (.int v5), some (.int r10), some (.int (0 : Int32))]) dX3_fewestThen_94 (Nat.le_of_ble_eq_true rfl) rfl ?_
    refine G.less [some (.ref l0), some (.int l1), some (.int l2), some (.int l3), none, some (.int v5), some (.int r10), some (.int (0 : Int32))] ⟨rfl, ⟨rfl, ⟨rfl, ⟨rfl, ⟨rfl, ⟨rfl, ⟨rfl, trivial⟩⟩⟩⟩⟩⟩⟩ ?_
    exact f_X3_fewestThen_96_ok hs hR_X3_fewestThen N _ _ _ _ _ _ _ h11 Q hw
  · have hw := hw.2 c6
    refine G_aload_n dX3_fewestThen_20 rfl ?_
    refine G_getR fl_X3_reading w_361 dX3_fewestThen_21 c1 ?_
    obtain ⟨a12, ea12, hw⟩ := wp_rq hw
    refine G.sure ea12 ?_
    refine G_iload_n dX3_fewestThen_24 rfl ?_
    obtain ⟨c13, hw⟩ := wp_ck hw
    obtain ⟨c14, hw⟩ := wp_ck hw
    refine G_iaload dX3_fewestThen_25 c13 c14 ?_
    refine G_aload_n dX3_fewestThen_26 rfl ?_
    refine G_getR fl_X3_idle w_359 dX3_fewestThen_27 c1 ?_
    obtain ⟨a15, ea15, hw⟩ := wp_rq hw
    refine G.sure ea15 ?_
    refine G_iload dX3_fewestThen_30 rfl ?_
    obtain ⟨c16, hw⟩ := wp_ck hw
    obtain ⟨c17, hw⟩ := wp_ck hw
    refine G_iaload dX3_fewestThen_32 c16 c17 ?_
    refine G_ishr dX3_fewestThen_33 ?_
    refine G_iconst (v := (1 : Int32)) dX3_fewestThen_34 (by decide) ?_
    refine G_iand dX3_fewestThen_35 ?_
    have hw := wp_if hw
    refine G_if_eq (tgt := 41) dX3_fewestThen_36 rfl (fun c18 => ?_) (fun c18 => ?_)
    · have hw := hw.1 c18
      refine G_aload_n dX3_fewestThen_41 rfl ?_
      refine G_getR fl_X3_reading w_361 dX3_fewestThen_42 c1 ?_
      obtain ⟨a19, ea19, hw⟩ := wp_rq hw
      refine G.sure ea19 ?_
      refine G_iload_n dX3_fewestThen_45 rfl ?_
      obtain ⟨c20, hw⟩ := wp_ck hw
      obtain ⟨c21, hw⟩ := wp_ck hw
      refine G_iaload dX3_fewestThen_46 c20 c21 ?_
      refine G_iconst (v := (1 : Int32)) dX3_fewestThen_47 (by decide) ?_
      refine G_ishr dX3_fewestThen_48 ?_
      refine G_aload_n dX3_fewestThen_49 rfl ?_
      refine G_getR fl_X3_fresh w_360 dX3_fewestThen_50 c1 ?_
      obtain ⟨a22, ea22, hw⟩ := wp_rq hw
      refine G.sure ea22 ?_
      refine G_iload dX3_fewestThen_53 rfl ?_
      obtain ⟨c23, hw⟩ := wp_ck hw
      obtain ⟨c24, hw⟩ := wp_ck hw
      refine G_iaload dX3_fewestThen_55 c23 c24 ?_
      refine G_iand dX3_fewestThen_56 ?_
      have hw := wp_if hw
      refine G_if_eq (tgt := 66) dX3_fewestThen_57 rfl (fun c25 => ?_) (fun c25 => ?_)
      · have hw := hw.1 c25
        refine G_iload dX3_fewestThen_66 rfl ?_
        exact G_ireturn rfl dX3_fewestThen_68 ⟨_, rfl, wp_ret hw⟩
      · have hw := hw.2 c25
        refine G_iload_n dX3_fewestThen_60 rfl ?_
        refine G_iconst (v := (1 : Int32)) dX3_fewestThen_61 (by decide) ?_
        refine G_iadd dX3_fewestThen_62 ?_
        refine G_goto (tgt := 68) dX3_fewestThen_63 rfl ?_
        exact G_ireturn rfl dX3_fewestThen_68 ⟨_, rfl, wp_ret hw⟩
    · have hw := hw.2 c18
      refine G_iload_n dX3_fewestThen_39 rfl ?_
      exact G_ireturn rfl dX3_fewestThen_40 ⟨_, rfl, wp_ret hw⟩
theorem s_X3_fewestThen {Γ : GX} (hs : SF Γ) {N : Nat} : ∀ (d : Nat) (z0 : Nat) (z1 : Int32) (z2 : Int32) (z3 : Int32) (z4 : Int32) (h : PH) (Q : Int32 → PH → Prop), wp (f_X3_fewestThen d N z0 z1 z2 z3 z4 h) Q → Spec Γ yX3_fewestThen cX3_fewestThen 8 (some .int) (1 + d, 0, 0) [.ref z0, .int z1, .int z2, .int z3, .int z4] h (q_i Q)
  | 0, _, _, _, _, _, _, Q, hw => (wp_no hw).elim
  | d + 1, z0, z1, z2, z3, z4, h, Q, hw => s_X3_fewestThen_b hs (s_X3_fewestThen hs d) z0 z1 z2 z3 z4 h Q hw
set_option maxHeartbeats 4000000 in
set_option maxRecDepth 100000 in
theorem s_X3_take {Γ : GX} (hs : SF Γ) {N : Nat} (l0 : Nat) (l1 : Int32) (h : PH) (Q : Unit → PH → Prop) (hw : wp (f_X3_take N l0 l1 h) Q) : Spec Γ yX3_take cX3_take 2 none (2, 0, 0) [.ref l0, .int l1] h (q_u Q) := by
  refine Spec.of (by decide) (Nat.le_of_ble_eq_true rfl) [some (.ref l0), some (.int l1)] rfl ?_
  unfold f_X3_take at hw
  refine G_iload_n dX3_take_0 rfl ?_
  refine G_aload_n dX3_take_1 rfl ?_
  obtain ⟨c1, hw⟩ := wp_ck hw
  refine G_getI fl_X3_fewest w_367 dX3_take_2 c1 ?_
  have hw := wp_if hw
  refine G_icmp_ge (tgt := 31) dX3_take_5 rfl (fun c2 => ?_) (fun c2 => ?_)
  · have hw := hw.1 c2
    exact G_vreturn rfl dX3_take_31 ⟨rfl, wp_ret hw⟩
  · have hw := hw.2 c2
    refine G_aload_n dX3_take_8 rfl ?_
    refine G_iload_n dX3_take_9 rfl ?_
    refine G_putI fl_X3_fewest w_367 dX3_take_10 c1 ?_
    refine G.nmh fun h3 eh3 => ?_
    have hw := wp_bd hw h3 eh3
    refine G_aload_n dX3_take_13 rfl ?_
    obtain ⟨c4, hw⟩ := wp_ck hw
    refine G_getR fl_X3_row w_354 dX3_take_14 c4 ?_
    obtain ⟨a5, ea5, hw⟩ := wp_rq hw
    refine G.sure ea5 ?_
    refine G_iconst (v := (0 : Int32)) dX3_take_17 (by decide) ?_
    refine G_aload_n dX3_take_18 rfl ?_
    refine G_getR fl_X3_best w_355 dX3_take_19 c4 ?_
    obtain ⟨a6, ea6, hw⟩ := wp_rq hw
    refine G.sure ea6 ?_
    refine G_iconst (v := (0 : Int32)) dX3_take_22 (by decide) ?_
    refine G_aload_n dX3_take_23 rfl ?_
    refine G_getR fl_X3_row w_354 dX3_take_24 c4 ?_
    obtain ⟨a7, ea7, hw⟩ := wp_rq hw
    refine G.sure ea7 ?_
    obtain ⟨c8, hw⟩ := wp_ck hw
    refine G_alen12 dX3_take_27 c8 ?_
    obtain ⟨c9, hw⟩ := wp_ck hw
    obtain ⟨c10, hw⟩ := wp_ck hw
    obtain ⟨c11, hw⟩ := wp_ck hw
    obtain ⟨c12, hw⟩ := wp_ck hw
    obtain ⟨c13, hw⟩ := wp_ck hw
    refine G_acopy w_1146 w_909 w_908 w_148 c9 c10 (by decide) (by decide) c11 c12 c13 dX3_take_28 (Nat.le_of_ble_eq_true rfl) (Nat.le_of_ble_eq_true rfl) ?_
    refine G.nmh fun h14 eh14 => ?_
    have hw := wp_bd hw h14 eh14
    exact G_vreturn rfl dX3_take_31 ⟨rfl, wp_ret hw⟩
set_option maxHeartbeats 4000000 in
set_option maxRecDepth 100000 in
theorem s_X6_fresh {Γ : GX} (hs : SF Γ) {N : Nat} (l0 : Nat) (l1 : Int32) (l2 : Int32) (l3 : Int32) (h : PH) (Q : Int32 → PH → Prop) (hw : wp (f_X6_fresh N l0 l1 l2 l3 h) Q) : Spec Γ yX6_fresh cX6_fresh 4 (some .int) (4, 0, 0) [.ref l0, .int l1, .int l2, .int l3] h (q_i Q) := by
  refine Spec.of (by decide) (Nat.le_of_ble_eq_true rfl) [some (.ref l0), some (.int l1), some (.int l2), some (.int l3)] rfl ?_
  unfold f_X6_fresh at hw
  refine G_aload_n dX6_fresh_0 rfl ?_
  refine G_iconst (v := (0 : Int32)) dX6_fresh_1 (by decide) ?_
  refine G_iload_n dX6_fresh_2 rfl ?_
  obtain ⟨c3, hw⟩ := wp_ck hw
  refine G_callV (As := [.int (0 : Int32), .int l1]) (s_X6_has hs l0 (0 : Int32) l1 h _ (wp_cl hw)) ca_X6_has w_955 w_956 (ci := 6) rfl (by decide) w_1151 c3 (Nat.le_of_ble_eq_true rfl) (Nat.le_of_ble_eq_true rfl) rfl (Nat.le_of_ble_eq_true rfl) (Nat.le_of_ble_eq_true rfl) (Nat.le_of_ble_eq_true rfl) dX6_fresh_3 rfl (fun v h2 hq => ?_)
  obtain ⟨r1, rfl, hw⟩ := hq
  refine G.cse (cs' := (0, 0)) rfl ?_
  show GZ _ _ _ _ _ _ _ 6 _ (.int r1 :: []) _ _
  have hw := wp_if hw
  refine G_if_eq (tgt := 25) dX6_fresh_6 rfl (fun c4 => ?_) (fun c4 => ?_)
  · have hw := hw.1 c4
    refine G_iconst (v := (0 : Int32)) dX6_fresh_25 (by decide) ?_
    exact G_ireturn rfl dX6_fresh_26 ⟨_, rfl, wp_ret hw⟩
  · have hw := hw.2 c4
    refine G_aload_n dX6_fresh_9 rfl ?_
    refine G_iload_n dX6_fresh_10 rfl ?_
    refine G_aload_n dX6_fresh_11 rfl ?_
    obtain ⟨c5, hw⟩ := wp_ck hw
    refine G_getR fl_X6_fuelBurns w_437 dX6_fresh_12 c5 ?_
    obtain ⟨a6, ea6, hw⟩ := wp_rq hw
    refine G.sure ea6 ?_
    refine G_iload_n dX6_fresh_15 rfl ?_
    obtain ⟨c7, hw⟩ := wp_ck hw
    obtain ⟨c8, hw⟩ := wp_ck hw
    refine G_iaload dX6_fresh_16 c7 c8 ?_
    refine G_iload_n dX6_fresh_17 rfl ?_
    refine G_iload_n dX6_fresh_18 rfl ?_
    refine G_callV (As := [.int l1, .int (hI h2 a6 (ix l1)), .int l2, .int l3]) (s_X6_givesOf hs l0 l1 (hI h2 a6 (ix l1)) l2 l3 h2 _ (wp_cl hw)) ca_X6_givesOf w_979 w_980 (ci := 6) rfl (by decide) w_1152 c5 (Nat.le_of_ble_eq_true rfl) (Nat.le_of_ble_eq_true rfl) rfl (Nat.le_of_ble_eq_true rfl) (Nat.le_of_ble_eq_true rfl) (Nat.le_of_ble_eq_true rfl) dX6_fresh_19 rfl (fun v h10 hq => ?_)
    obtain ⟨r9, rfl, hw⟩ := hq
    refine G.cse (cs' := (0, 0)) rfl ?_
    show GZ _ _ _ _ _ _ _ 22 _ (.int r9 :: []) _ _
    refine G_goto (tgt := 26) dX6_fresh_22 rfl ?_
    exact G_ireturn rfl dX6_fresh_26 ⟨_, rfl, wp_ret hw⟩
set_option maxHeartbeats 4000000 in
set_option maxRecDepth 100000 in
theorem f_X3_goFirst_61_ok {Γ : GX} (hs : SF Γ) {d : Nat} {R_X3_goFirst : Nat → Int32 → Int32 → Int32 → Int32 → PH → Option (Unit × PH)} (hR_X3_goFirst : ∀ (z0 : Nat) (z1 : Int32) (z2 : Int32) (z3 : Int32) (z4 : Int32) (h : PH) (Q : Unit → PH → Prop), wp (R_X3_goFirst z0 z1 z2 z3 z4 h) Q → Spec Γ yX3_goFirst cX3_goFirst 10 none (42 + d, 0, 0) [.ref z0, .int z1, .int z2, .int z3, .int z4] h (q_u Q)) {N : Nat} (s0 : Int32) (s1 : Nat) (h : PH) (Q : Unit → PH → Prop) (hw : wp (f_X3_goFirst_61 R_X3_goFirst N s0 s1 h) Q) : G Γ yX3_goFirst cX3_goFirst 10 none (42 + (d + 1), 0, 0) 61 [none, none, none, none, none, none, none, none, none, none] [.int s0, .ref s1] h (0, 0) (q_u Q) := by
  unfold f_X3_goFirst_61 at hw
  obtain ⟨c3, hw⟩ := wp_ck hw
  refine G_callV (As := [.int s0]) (s_X3_take hs s1 s0 h _ (wp_cl hw)) ca_X3_take w_1144 w_31 (ci := 3) rfl (by decide) w_1142 c3 (by show 2 + 1 ≤ 42 + (d + 1); omega) (Nat.le_of_ble_eq_true rfl) rfl (Nat.le_of_ble_eq_true rfl) (Nat.le_of_ble_eq_true rfl) (Nat.le_of_ble_eq_true rfl) dX3_goFirst_61 rfl (fun v h2 hq => ?_)
  obtain ⟨rfl, hw⟩ := hq
  refine G.cse (cs' := (0, 0)) rfl ?_
  show GZ _ _ _ _ _ _ _ 64 _ [] _ _
  exact G_vreturn rfl dX3_goFirst_64 ⟨rfl, wp_ret hw⟩
set_option maxHeartbeats 4000000 in
set_option maxRecDepth 100000 in
theorem f_X3_goFirst_269_ok {Γ : GX} (hs : SF Γ) {d : Nat} {R_X3_goFirst : Nat → Int32 → Int32 → Int32 → Int32 → PH → Option (Unit × PH)} (hR_X3_goFirst : ∀ (z0 : Nat) (z1 : Int32) (z2 : Int32) (z3 : Int32) (z4 : Int32) (h : PH) (Q : Unit → PH → Prop), wp (R_X3_goFirst z0 z1 z2 z3 z4 h) Q → Spec Γ yX3_goFirst cX3_goFirst 10 none (42 + d, 0, 0) [.ref z0, .int z1, .int z2, .int z3, .int z4] h (q_u Q)) {N : Nat} {K_186 : Nat → Int32 → Int32 → Int32 → Int32 → Int32 → Int32 → Int32 → PH → Option (Unit × PH)} (hK_186 : ∀ (l0 : Nat) (l1 : Int32) (l2 : Int32) (l3 : Int32) (l4 : Int32) (l5 : Int32) (l6 : Int32) (l7 : Int32) (h : PH) (Q : Unit → PH → Prop), wp (K_186 l0 l1 l2 l3 l4 l5 l6 l7 h) Q → G Γ yX3_goFirst cX3_goFirst 10 none (42 + (d + 1), 0, 0) 186 [some (.ref l0), some (.int l1), some (.int l2), some (.int l3), some (.int l4), some (.int l5), some (.int l6), some (.int l7), none, none] [] h (0, 0) (q_u Q)) (l0 : Nat) (l1 : Int32) (l2 : Int32) (l3 : Int32) (l4 : Int32) (l5 : Int32) (l6 : Int32) (l7 : Int32) (h : PH) (Q : Unit → PH → Prop) (hw : wp (f_X3_goFirst_269 R_X3_goFirst N K_186 l0 l1 l2 l3 l4 l5 l6 l7 h) Q) : G Γ yX3_goFirst cX3_goFirst 10 none (42 + (d + 1), 0, 0) 269 [some (.ref l0), some (.int l1), some (.int l2), some (.int l3), some (.int l4), some (.int l5), some (.int l6), some (.int l7), none, none] [] h (0, 0) (q_u Q) := by
  unfold f_X3_goFirst_269 at hw
  obtain ⟨v1, ev1⟩ : ∃ z : Int32, z = l7 + (1 : Int32) := ⟨_, rfl⟩
  have hw := wp_bd hw v1 ev1
  refine G_iinc (v := v1) (lv' := [some (.ref l0), some (.int l1), some (.int l2), some (.int l3), some (.int l4), some (.int l5), some (.int l6), some (.int v1), none, none]) dX3_goFirst_269 rfl (by rw [ev1]; rfl) (Nat.le_of_ble_eq_true rfl) rfl ?_
  refine G_goto (tgt := 186) dX3_goFirst_272 rfl ?_
  refine G.less [some (.ref l0), some (.int l1), some (.int l2), some (.int l3), some (.int l4), some (.int l5), some (.int l6), some (.int v1), none, none] ⟨rfl, ⟨rfl, ⟨rfl, ⟨rfl, ⟨rfl, ⟨rfl, ⟨rfl, ⟨rfl, trivial⟩⟩⟩⟩⟩⟩⟩⟩ ?_
  exact hK_186 _ _ _ _ _ _ _ _ h Q hw
set_option maxHeartbeats 4000000 in
set_option maxRecDepth 100000 in
theorem f_X3_goFirst_186_bok {Γ : GX} (hs : SF Γ) {d : Nat} {R_X3_goFirst : Nat → Int32 → Int32 → Int32 → Int32 → PH → Option (Unit × PH)} (hR_X3_goFirst : ∀ (z0 : Nat) (z1 : Int32) (z2 : Int32) (z3 : Int32) (z4 : Int32) (h : PH) (Q : Unit → PH → Prop), wp (R_X3_goFirst z0 z1 z2 z3 z4 h) Q → Spec Γ yX3_goFirst cX3_goFirst 10 none (42 + d, 0, 0) [.ref z0, .int z1, .int z2, .int z3, .int z4] h (q_u Q)) {N : Nat} {K_186 : Nat → Int32 → Int32 → Int32 → Int32 → Int32 → Int32 → Int32 → PH → Option (Unit × PH)} (hK_186 : ∀ (l0 : Nat) (l1 : Int32) (l2 : Int32) (l3 : Int32) (l4 : Int32) (l5 : Int32) (l6 : Int32) (l7 : Int32) (h : PH) (Q : Unit → PH → Prop), wp (K_186 l0 l1 l2 l3 l4 l5 l6 l7 h) Q → G Γ yX3_goFirst cX3_goFirst 10 none (42 + (d + 1), 0, 0) 186 [some (.ref l0), some (.int l1), some (.int l2), some (.int l3), some (.int l4), some (.int l5), some (.int l6), some (.int l7), none, none] [] h (0, 0) (q_u Q)) (l0 : Nat) (l1 : Int32) (l2 : Int32) (l3 : Int32) (l4 : Int32) (l5 : Int32) (l6 : Int32) (l7 : Int32) (h : PH) (Q : Unit → PH → Prop) (hw : wp (f_X3_goFirst_186_b R_X3_goFirst N K_186 l0 l1 l2 l3 l4 l5 l6 l7 h) Q) : G Γ yX3_goFirst cX3_goFirst 10 none (42 + (d + 1), 0, 0) 186 [some (.ref l0), some (.int l1), some (.int l2), some (.int l3), some (.int l4), some (.int l5), some (.int l6), some (.int l7), none, none] [] h (0, 0) (q_u Q) := by
  unfold f_X3_goFirst_186_b at hw
  refine G_iload dX3_goFirst_186 rfl ?_
  refine G_aload_n dX3_goFirst_188 rfl ?_
  obtain ⟨c1, hw⟩ := wp_ck hw
  refine G_getR fl_X3_valley w_362 dX3_goFirst_189 c1 ?_
  obtain ⟨a2, ea2, hw⟩ := wp_rq hw
  refine G.sure ea2 ?_
  obtain ⟨c3, hw⟩ := wp_ck hw
  refine G_getNR fl_X6_many w_427 dX3_goFirst_192 c3 ?_
  obtain ⟨a4, ea4, hw⟩ := wp_rq hw
  refine G.sure ea4 ?_
  refine G_iconst (v := (0 : Int32)) dX3_goFirst_195 (by decide) ?_
  obtain ⟨c5, hw⟩ := wp_ck hw
  obtain ⟨c6, hw⟩ := wp_ck hw
  refine G_ialoadK (k := 0) dX3_goFirst_196 c5 (by decide) rfl c6 ?_
  have hw := wp_if hw
  refine G_icmp_ge (tgt := 275) dX3_goFirst_197 rfl (fun c7 => ?_) (fun c7 => ?_)
  · have hw := hw.1 c7
    refine G_aload_n dX3_goFirst_275 rfl ?_
    refine G_getR fl_X3_row w_354 dX3_goFirst_276 c1 ?_
    obtain ⟨a8, ea8, hw⟩ := wp_rq hw
    refine G.sure ea8 ?_
    refine G_iload_n dX3_goFirst_279 rfl ?_
    refine G_iconst (v := (-1 : Int32)) dX3_goFirst_280 (by decide) ?_
    obtain ⟨c9, hw⟩ := wp_ck hw
    obtain ⟨c10, hw⟩ := wp_ck hw
    refine G_iastore dX3_goFirst_281 c9 c10 ?_
    refine G.nmh fun h11 eh11 => ?_
    have hw := wp_bd hw h11 eh11
    refine G_aload_n dX3_goFirst_282 rfl ?_
    refine G_iload_n dX3_goFirst_283 rfl ?_
    refine G_iconst (v := (1 : Int32)) dX3_goFirst_284 (by decide) ?_
    refine G_iadd dX3_goFirst_285 ?_
    refine G_iload_n dX3_goFirst_286 rfl ?_
    refine G_iload_n dX3_goFirst_287 rfl ?_
    refine G_iload dX3_goFirst_288 rfl ?_
    obtain ⟨c14, hw⟩ := wp_ck hw
    refine G_callV (As := [.int (l1 + (1 : Int32)), .int l2, .int l3, .int l4]) (hR_X3_goFirst l0 (l1 + (1 : Int32)) l2 l3 l4 h11 _ (wp_cl hw)) ca_X3_goFirst w_1136 w_29 (ci := 3) rfl (by decide) w_1134 c14 (Nat.le_refl _) (Nat.le_of_ble_eq_true rfl) rfl (Nat.le_of_ble_eq_true rfl) (Nat.le_of_ble_eq_true rfl) (Nat.le_of_ble_eq_true rfl) dX3_goFirst_290 rfl (fun v h13 hq => ?_)
    obtain ⟨rfl, hw⟩ := hq
    refine G.cse (cs' := (0, 0)) rfl ?_
    show GZ _ _ _ _ _ _ _ 293 _ [] _ _
    exact G_vreturn rfl dX3_goFirst_293 ⟨rfl, wp_ret hw⟩
  · have hw := hw.2 c7
    refine G_aload_n dX3_goFirst_200 rfl ?_
    refine G_getR fl_X3_state w_363 dX3_goFirst_201 c1 ?_
    obtain ⟨a15, ea15, hw⟩ := wp_rq hw
    refine G.sure ea15 ?_
    refine G_iload dX3_goFirst_204 rfl ?_
    refine G_iload dX3_goFirst_206 rfl ?_
    obtain ⟨c18, hw⟩ := wp_ck hw
    refine G_callV (As := [.int l5, .int l7]) (s_X4_canLight hs a15 l5 l7 h _ (wp_cl hw)) ca_X4_canLight w_1020 w_1021 (ci := 4) rfl (by decide) w_1128 c18 (by show 2 + 1 ≤ 42 + (d + 1); omega) (Nat.le_of_ble_eq_true rfl) rfl (Nat.le_of_ble_eq_true rfl) (Nat.le_of_ble_eq_true rfl) (Nat.le_of_ble_eq_true rfl) dX3_goFirst_208 rfl (fun v h17 hq => ?_)
    obtain ⟨r16, rfl, hw⟩ := hq
    refine G.cse (cs' := (0, 0)) rfl ?_
    show GZ _ _ _ _ _ _ _ 211 _ (.int r16 :: []) _ _
    have hw := wp_if hw
    refine G_if_eq (tgt := 269) dX3_goFirst_211 rfl (fun c19 => ?_) (fun c19 => ?_)
    · have hw := hw.1 c19
      refine G.less [some (.ref l0), some (.int l1), some (.int l2), some (.int l3), some (.int l4), some (.int l5), some (.int l6), some (.int l7), none, none] ⟨rfl, ⟨rfl, ⟨rfl, ⟨rfl, ⟨rfl, ⟨rfl, ⟨rfl, ⟨rfl, trivial⟩⟩⟩⟩⟩⟩⟩⟩ ?_
      exact f_X3_goFirst_269_ok hs hR_X3_goFirst hK_186 _ _ _ _ _ _ _ _ h17 Q hw
    · have hw := hw.2 c19
      refine G_aload_n dX3_goFirst_214 rfl ?_
      obtain ⟨c20, hw⟩ := wp_ck hw
      refine G_getR fl_X3_row w_354 dX3_goFirst_215 c20 ?_
      obtain ⟨a21, ea21, hw⟩ := wp_rq hw
      refine G.sure ea21 ?_
      refine G_iload_n dX3_goFirst_218 rfl ?_
      refine G_iload dX3_goFirst_219 rfl ?_
      obtain ⟨c22, hw⟩ := wp_ck hw
      obtain ⟨c23, hw⟩ := wp_ck hw
      refine G_iastore dX3_goFirst_221 c22 c23 ?_
      refine G.nmh fun h24 eh24 => ?_
      have hw := wp_bd hw h24 eh24
      refine G_aload_n dX3_goFirst_222 rfl ?_
      obtain ⟨c25, hw⟩ := wp_ck hw
      refine G_getR fl_X3_valley w_362 dX3_goFirst_223 c25 ?_
      obtain ⟨a26, ea26, hw⟩ := wp_rq hw
      refine G.sure ea26 ?_
      refine G_iload dX3_goFirst_226 rfl ?_
      refine G_iload dX3_goFirst_228 rfl ?_
      refine G_iconst (v := (0 : Int32)) dX3_goFirst_230 (by decide) ?_
      obtain ⟨c29, hw⟩ := wp_ck hw
      refine G_callV (As := [.int l7, .int l6, .int (0 : Int32)]) (s_X6_fresh hs a26 l7 l6 (0 : Int32) h24 _ (wp_cl hw)) ca_X6_fresh w_1148 w_1149 (ci := 6) rfl (by decide) w_1147 c29 (by show 4 + 1 ≤ 42 + (d + 1); omega) (Nat.le_of_ble_eq_true rfl) rfl (Nat.le_of_ble_eq_true rfl) (Nat.le_of_ble_eq_true rfl) (Nat.le_of_ble_eq_true rfl) dX3_goFirst_231 rfl (fun v h28 hq => ?_)
      obtain ⟨r27, rfl, hw⟩ := hq
      refine G.cse (cs' := (0, 0)) rfl ?_
      show GZ _ _ _ _ _ _ _ 234 _ (.int r27 :: []) _ _
      refine G_istore (lv' := [some (.ref l0), some (.int l1), some (.int l2), some (.int l3), some (.int l4), some (.int l5), some (.int l6), some (.int l7), some (.int r27), none]) dX3_goFirst_234 (Nat.le_of_ble_eq_true rfl) rfl ?_
      refine G_aload_n dX3_goFirst_236 rfl ?_
      obtain ⟨c30, hw⟩ := wp_ck hw
      refine G_getR fl_X3_valley w_362 dX3_goFirst_237 c30 ?_
      obtain ⟨a31, ea31, hw⟩ := wp_rq hw
      refine G.sure ea31 ?_
      refine G_iload dX3_goFirst_240 rfl ?_
      refine G_iload dX3_goFirst_242 rfl ?_
      refine G_iconst (v := (1 : Int32)) dX3_goFirst_244 (by decide) ?_
      obtain ⟨c34, hw⟩ := wp_ck hw
      refine G_callV (As := [.int l7, .int l6, .int (1 : Int32)]) (s_X6_fresh hs a31 l7 l6 (1 : Int32) h28 _ (wp_cl hw)) ca_X6_fresh w_1148 w_1149 (ci := 6) rfl (by decide) w_1147 c34 (by show 4 + 1 ≤ 42 + (d + 1); omega) (Nat.le_of_ble_eq_true rfl) rfl (Nat.le_of_ble_eq_true rfl) (Nat.le_of_ble_eq_true rfl) (Nat.le_of_ble_eq_true rfl) dX3_goFirst_245 rfl (fun v h33 hq => ?_)
      obtain ⟨r32, rfl, hw⟩ := hq
      refine G.cse (cs' := (0, 0)) rfl ?_
      show GZ _ _ _ _ _ _ _ 248 _ (.int r32 :: []) _ _
      refine G_istore (lv' := [some (.ref l0), some (.int l1), some (.int l2), some (.int l3), some (.int l4), some (.int l5), some (.int l6), some (.int l7), some (.int r27), some (.int r32)]) dX3_goFirst_248 (Nat.le_of_ble_eq_true rfl) rfl ?_
      refine G_aload_n dX3_goFirst_250 rfl ?_
      refine G_iload_n dX3_goFirst_251 rfl ?_
      refine G_iconst (v := (1 : Int32)) dX3_goFirst_252 (by decide) ?_
      refine G_iadd dX3_goFirst_253 ?_
      refine G_iload_n dX3_goFirst_254 rfl ?_
      refine G_iload dX3_goFirst_255 rfl ?_
      refine G_iadd dX3_goFirst_257 ?_
      refine G_iload_n dX3_goFirst_258 rfl ?_
      refine G_iload dX3_goFirst_259 rfl ?_
      refine G_iadd dX3_goFirst_261 ?_
      refine G_iload dX3_goFirst_262 rfl ?_
      refine G_iconst (v := (1 : Int32)) dX3_goFirst_264 (by decide) ?_
      refine G_iadd dX3_goFirst_265 ?_
      obtain ⟨c37, hw⟩ := wp_ck hw
      refine G_callV (As := [.int (l1 + (1 : Int32)), .int (l2 + r27), .int (l3 + r32), .int (l4 + (1 : Int32))]) (hR_X3_goFirst l0 (l1 + (1 : Int32)) (l2 + r27) (l3 + r32) (l4 + (1 : Int32)) h33 _ (wp_cl hw)) ca_X3_goFirst w_1136 w_29 (ci := 3) rfl (by decide) w_1134 c37 (Nat.le_refl _) (Nat.le_of_ble_eq_true rfl) rfl (Nat.le_of_ble_eq_true rfl) (Nat.le_of_ble_eq_true rfl) (Nat.le_of_ble_eq_true rfl) dX3_goFirst_266 rfl (fun v h36 hq => ?_)
      obtain ⟨rfl, hw⟩ := hq
      refine G.cse (cs' := (0, 0)) rfl ?_
      show GZ _ _ _ _ _ _ _ 269 _ [] _ _
      refine G.less [some (.ref l0), some (.int l1), some (.int l2), some (.int l3), some (.int l4), some (.int l5), some (.int l6), some (.int l7), none, none] ⟨rfl, ⟨rfl, ⟨rfl, ⟨rfl, ⟨rfl, ⟨rfl, ⟨rfl, ⟨rfl, trivial⟩⟩⟩⟩⟩⟩⟩⟩ ?_
      exact f_X3_goFirst_269_ok hs hR_X3_goFirst hK_186 _ _ _ _ _ _ _ _ h36 Q hw
theorem f_X3_goFirst_186_ok {Γ : GX} (hs : SF Γ) {d : Nat} {R_X3_goFirst : Nat → Int32 → Int32 → Int32 → Int32 → PH → Option (Unit × PH)} (hR_X3_goFirst : ∀ (z0 : Nat) (z1 : Int32) (z2 : Int32) (z3 : Int32) (z4 : Int32) (h : PH) (Q : Unit → PH → Prop), wp (R_X3_goFirst z0 z1 z2 z3 z4 h) Q → Spec Γ yX3_goFirst cX3_goFirst 10 none (42 + d, 0, 0) [.ref z0, .int z1, .int z2, .int z3, .int z4] h (q_u Q)) {N : Nat} : ∀ (n : Nat) (l0 : Nat) (l1 : Int32) (l2 : Int32) (l3 : Int32) (l4 : Int32) (l5 : Int32) (l6 : Int32) (l7 : Int32) (h : PH) (Q : Unit → PH → Prop), wp (f_X3_goFirst_186 R_X3_goFirst N n l0 l1 l2 l3 l4 l5 l6 l7 h) Q → G Γ yX3_goFirst cX3_goFirst 10 none (42 + (d + 1), 0, 0) 186 [some (.ref l0), some (.int l1), some (.int l2), some (.int l3), some (.int l4), some (.int l5), some (.int l6), some (.int l7), none, none] [] h (0, 0) (q_u Q)
  | 0, _, _, _, _, _, _, _, _, _, Q, hw => (wp_no hw).elim
  | n + 1, l0, l1, l2, l3, l4, l5, l6, l7, h, Q, hw => f_X3_goFirst_186_bok (N := N) hs hR_X3_goFirst (f_X3_goFirst_186_ok (N := N) hs hR_X3_goFirst n) l0 l1 l2 l3 l4 l5 l6 l7 h Q hw
set_option maxHeartbeats 4000000 in
set_option maxRecDepth 100000 in
theorem s_X3_goFirst_b {Γ : GX} (hs : SF Γ) {d : Nat} {R_X3_goFirst : Nat → Int32 → Int32 → Int32 → Int32 → PH → Option (Unit × PH)} (hR_X3_goFirst : ∀ (z0 : Nat) (z1 : Int32) (z2 : Int32) (z3 : Int32) (z4 : Int32) (h : PH) (Q : Unit → PH → Prop), wp (R_X3_goFirst z0 z1 z2 z3 z4 h) Q → Spec Γ yX3_goFirst cX3_goFirst 10 none (42 + d, 0, 0) [.ref z0, .int z1, .int z2, .int z3, .int z4] h (q_u Q)) {N : Nat} (l0 : Nat) (l1 : Int32) (l2 : Int32) (l3 : Int32) (l4 : Int32) (h : PH) (Q : Unit → PH → Prop) (hw : wp (f_X3_goFirst_b R_X3_goFirst N l0 l1 l2 l3 l4 h) Q) : Spec Γ yX3_goFirst cX3_goFirst 10 none (42 + (d + 1), 0, 0) [.ref l0, .int l1, .int l2, .int l3, .int l4] h (q_u Q) := by
  refine Spec.of (by decide) (Nat.le_of_ble_eq_true rfl) [some (.ref l0), some (.int l1), some (.int l2), some (.int l3), some (.int l4), none, none, none, none, none] rfl ?_
  unfold f_X3_goFirst_b at hw
  refine G_iload dX3_goFirst_0 rfl ?_
  refine G_aload_n dX3_goFirst_2 rfl ?_
  obtain ⟨c1, hw⟩ := wp_ck hw
  refine G_getI fl_X3_fewest w_367 dX3_goFirst_3 c1 ?_
  have hw := wp_if hw
  refine G_icmp_lt (tgt := 10) dX3_goFirst_6 rfl (fun c2 => ?_) (fun c2 => ?_)
  · have hw := hw.1 c2
    refine G_iload_n dX3_goFirst_10 rfl ?_
    refine G_aload_n dX3_goFirst_11 rfl ?_
    refine G_getI fl_X3_count w_364 dX3_goFirst_12 c1 ?_
    have hw := wp_if hw
    refine G_icmp_lt (tgt := 65) dX3_goFirst_15 rfl (fun c3 => ?_) (fun c3 => ?_)
    · have hw := hw.1 c3
      refine G_aload_n dX3_goFirst_65 rfl ?_
      refine G_getR fl_X3_houses w_353 dX3_goFirst_66 c1 ?_
      obtain ⟨a4, ea4, hw⟩ := wp_rq hw
      refine G.sure ea4 ?_
      refine G_iload_n dX3_goFirst_69 rfl ?_
      obtain ⟨c5, hw⟩ := wp_ck hw
      obtain ⟨c6, hw⟩ := wp_ck hw
      refine G_iaload dX3_goFirst_70 c5 c6 ?_
      refine G.topi fun v7 ev7 => ?_
      have hw := wp_bd hw v7 ev7
      refine G_istore (lv' := [some (.ref l0), some (.int l1), some (.int l2), some (.int l3), some (.int l4), some (.int v7), none, none, none, none]) dX3_goFirst_71 (Nat.le_of_ble_eq_true rfl) rfl ?_
      refine G_aload_n dX3_goFirst_73 rfl ?_
      refine G_getR fl_X3_valley w_362 dX3_goFirst_74 c1 ?_
      obtain ⟨a8, ea8, hw⟩ := wp_rq hw
      refine G.sure ea8 ?_
      refine G_aload_n dX3_goFirst_77 rfl ?_
      refine G_getR fl_X3_state w_363 dX3_goFirst_78 c1 ?_
      obtain ⟨a9, ea9, hw⟩ := wp_rq hw
      refine G.sure ea9 ?_
      obtain ⟨c10, hw⟩ := wp_ck hw
      refine G_getNI fl_X4_hour w_218 dX3_goFirst_81 c10 ?_
      obtain ⟨c13, hw⟩ := wp_ck hw
      refine G_callV (As := [.int (hI h a9 0)]) (s_X6_windAt hs a8 (hI h a9 0) h _ (wp_cl hw)) ca_X6_windAt w_975 w_976 (ci := 6) rfl (by decide) w_1125 c13 (by show 1 + 1 ≤ 42 + (d + 1); omega) (Nat.le_of_ble_eq_true rfl) rfl (Nat.le_of_ble_eq_true rfl) (Nat.le_of_ble_eq_true rfl) (Nat.le_of_ble_eq_true rfl) dX3_goFirst_84 rfl (fun v h12 hq => ?_)
      obtain ⟨r11, rfl, hw⟩ := hq
      refine G.cse (cs' := (0, 0)) rfl ?_
      show GZ _ _ _ _ _ _ _ 87 _ (.int r11 :: []) _ _
      refine G_istore (lv' := [some (.ref l0), some (.int l1), some (.int l2), some (.int l3), some (.int l4), some (.int v7), some (.int r11), none, none, none]) dX3_goFirst_87 (Nat.le_of_ble_eq_true rfl) rfl ?_
      refine G_aload_n dX3_goFirst_89 rfl ?_
      obtain ⟨c14, hw⟩ := wp_ck hw
      refine G_getR fl_X3_state w_363 dX3_goFirst_90 c14 ?_
      obtain ⟨a15, ea15, hw⟩ := wp_rq hw
      refine G.sure ea15 ?_
      refine G_iload dX3_goFirst_93 rfl ?_
      obtain ⟨c18, hw⟩ := wp_ck hw
      refine G_callV (As := [.int v7]) (s_X4_burns hs a15 v7 h12 _ (wp_cl hw)) ca_X4_burns w_1024 w_1025 (ci := 4) rfl (by decide) w_1120 c18 (by show 1 + 1 ≤ 42 + (d + 1); omega) (Nat.le_of_ble_eq_true rfl) rfl (Nat.le_of_ble_eq_true rfl) (Nat.le_of_ble_eq_true rfl) (Nat.le_of_ble_eq_true rfl) dX3_goFirst_95 rfl (fun v h17 hq => ?_)
      obtain ⟨r16, rfl, hw⟩ := hq
      refine G.cse (cs' := (0, 0)) rfl ?_
      show GZ _ _ _ _ _ _ _ 98 _ (.int r16 :: []) _ _
      have hw := wp_if hw
      refine G_if_eq (tgt := 183) dX3_goFirst_98 rfl (fun c19 => ?_) (fun c19 => ?_)
      · have hw := hw.1 c19
        refine G_iconst (v := (0 : Int32)) dX3_goFirst_183 (by decide) ?_
        refine G_istore (lv' := [some (.ref l0), some (.int l1), some (.int l2), some (.int l3), some (.int l4), some (.int v7), some (.int r11), some (.int (0 : Int32)), none, none]) dX3_goFirst_184 (Nat.le_of_ble_eq_true rfl) rfl ?_
        refine G.less [some (.ref l0), some (.int l1), some (.int l2), some (.int l3), some (.int l4), some (.int v7), some (.int r11), some (.int (0 : Int32)), none, none] ⟨rfl, ⟨rfl, ⟨rfl, ⟨rfl, ⟨rfl, ⟨rfl, ⟨rfl, ⟨rfl, trivial⟩⟩⟩⟩⟩⟩⟩⟩ ?_
        exact f_X3_goFirst_186_ok hs hR_X3_goFirst N _ _ _ _ _ _ _ _ h17 Q hw
      · have hw := hw.2 c19
        refine G_aload_n dX3_goFirst_101 rfl ?_
        obtain ⟨c20, hw⟩ := wp_ck hw
        refine G_getR fl_X3_valley w_362 dX3_goFirst_102 c20 ?_
        obtain ⟨a21, ea21, hw⟩ := wp_rq hw
        refine G.sure ea21 ?_
        refine G_aload_n dX3_goFirst_105 rfl ?_
        refine G_getR fl_X3_state w_363 dX3_goFirst_106 c20 ?_
        obtain ⟨a22, ea22, hw⟩ := wp_rq hw
        refine G.sure ea22 ?_
        obtain ⟨c23, hw⟩ := wp_ck hw
        refine G_getNR fl_X4_fuel w_222 dX3_goFirst_109 c23 ?_
        obtain ⟨a24, ea24, hw⟩ := wp_rq hw
        refine G.sure ea24 ?_
        refine G_iload dX3_goFirst_112 rfl ?_
        obtain ⟨c25, hw⟩ := wp_ck hw
        obtain ⟨c26, hw⟩ := wp_ck hw
        refine G_iaload dX3_goFirst_114 c25 c26 ?_
        refine G_aload_n dX3_goFirst_115 rfl ?_
        refine G_getR fl_X3_state w_363 dX3_goFirst_116 c20 ?_
        obtain ⟨a27, ea27, hw⟩ := wp_rq hw
        refine G.sure ea27 ?_
        obtain ⟨c28, hw⟩ := wp_ck hw
        refine G_getNR fl_X4_left w_225 dX3_goFirst_119 c28 ?_
        obtain ⟨a29, ea29, hw⟩ := wp_rq hw
        refine G.sure ea29 ?_
        refine G_iload dX3_goFirst_122 rfl ?_
        obtain ⟨c30, hw⟩ := wp_ck hw
        obtain ⟨c31, hw⟩ := wp_ck hw
        refine G_iaload dX3_goFirst_124 c30 c31 ?_
        refine G_iload dX3_goFirst_125 rfl ?_
        refine G_iconst (v := (0 : Int32)) dX3_goFirst_127 (by decide) ?_
        obtain ⟨c34, hw⟩ := wp_ck hw
        refine G_callV (As := [.int (hI h17 a24 (ix v7)), .int (hI h17 a29 (ix v7)), .int r11, .int (0 : Int32)]) (s_X6_givesOf hs a21 (hI h17 a24 (ix v7)) (hI h17 a29 (ix v7)) r11 (0 : Int32) h17 _ (wp_cl hw)) ca_X6_givesOf w_979 w_980 (ci := 6) rfl (by decide) w_1126 c34 (by show 3 + 1 ≤ 42 + (d + 1); omega) (Nat.le_of_ble_eq_true rfl) rfl (Nat.le_of_ble_eq_true rfl) (Nat.le_of_ble_eq_true rfl) (Nat.le_of_ble_eq_true rfl) dX3_goFirst_128 rfl (fun v h33 hq => ?_)
        obtain ⟨r32, rfl, hw⟩ := hq
        refine G.cse (cs' := (0, 0)) rfl ?_
        show GZ _ _ _ _ _ _ _ 131 _ (.int r32 :: []) _ _
        refine G_istore (lv' := [some (.ref l0), some (.int l1), some (.int l2), some (.int l3), some (.int l4), some (.int v7), some (.int r11), some (.int r32), none, none]) dX3_goFirst_131 (Nat.le_of_ble_eq_true rfl) rfl ?_
        refine G_aload_n dX3_goFirst_133 rfl ?_
        obtain ⟨c35, hw⟩ := wp_ck hw
        refine G_getR fl_X3_valley w_362 dX3_goFirst_134 c35 ?_
        obtain ⟨a36, ea36, hw⟩ := wp_rq hw
        refine G.sure ea36 ?_
        refine G_aload_n dX3_goFirst_137 rfl ?_
        refine G_getR fl_X3_state w_363 dX3_goFirst_138 c35 ?_
        obtain ⟨a37, ea37, hw⟩ := wp_rq hw
        refine G.sure ea37 ?_
        obtain ⟨c38, hw⟩ := wp_ck hw
        refine G_getNR fl_X4_fuel w_222 dX3_goFirst_141 c38 ?_
        obtain ⟨a39, ea39, hw⟩ := wp_rq hw
        refine G.sure ea39 ?_
        refine G_iload dX3_goFirst_144 rfl ?_
        obtain ⟨c40, hw⟩ := wp_ck hw
        obtain ⟨c41, hw⟩ := wp_ck hw
        refine G_iaload dX3_goFirst_146 c40 c41 ?_
        refine G_aload_n dX3_goFirst_147 rfl ?_
        refine G_getR fl_X3_state w_363 dX3_goFirst_148 c35 ?_
        obtain ⟨a42, ea42, hw⟩ := wp_rq hw
        refine G.sure ea42 ?_
        obtain ⟨c43, hw⟩ := wp_ck hw
        refine G_getNR fl_X4_left w_225 dX3_goFirst_151 c43 ?_
        obtain ⟨a44, ea44, hw⟩ := wp_rq hw
        refine G.sure ea44 ?_
        refine G_iload dX3_goFirst_154 rfl ?_
        obtain ⟨c45, hw⟩ := wp_ck hw
        obtain ⟨c46, hw⟩ := wp_ck hw
        refine G_iaload dX3_goFirst_156 c45 c46 ?_
        refine G_iload dX3_goFirst_157 rfl ?_
        refine G_iconst (v := (1 : Int32)) dX3_goFirst_159 (by decide) ?_
        obtain ⟨c49, hw⟩ := wp_ck hw
        refine G_callV (As := [.int (hI h33 a39 (ix v7)), .int (hI h33 a44 (ix v7)), .int r11, .int (1 : Int32)]) (s_X6_givesOf hs a36 (hI h33 a39 (ix v7)) (hI h33 a44 (ix v7)) r11 (1 : Int32) h33 _ (wp_cl hw)) ca_X6_givesOf w_979 w_980 (ci := 6) rfl (by decide) w_1126 c49 (by show 3 + 1 ≤ 42 + (d + 1); omega) (Nat.le_of_ble_eq_true rfl) rfl (Nat.le_of_ble_eq_true rfl) (Nat.le_of_ble_eq_true rfl) (Nat.le_of_ble_eq_true rfl) dX3_goFirst_160 rfl (fun v h48 hq => ?_)
        obtain ⟨r47, rfl, hw⟩ := hq
        refine G.cse (cs' := (0, 0)) rfl ?_
        show GZ _ _ _ _ _ _ _ 163 _ (.int r47 :: []) _ _
        refine G_istore (lv' := [some (.ref l0), some (.int l1), some (.int l2), some (.int l3), some (.int l4), some (.int v7), some (.int r11), some (.int r32), some (.int r47), none]) dX3_goFirst_163 (Nat.le_of_ble_eq_true rfl) rfl ?_
        refine G_aload_n dX3_goFirst_165 rfl ?_
        refine G_iload_n dX3_goFirst_166 rfl ?_
        refine G_iconst (v := (1 : Int32)) dX3_goFirst_167 (by decide) ?_
        refine G_iadd dX3_goFirst_168 ?_
        refine G_iload_n dX3_goFirst_169 rfl ?_
        refine G_iload dX3_goFirst_170 rfl ?_
        refine G_iadd dX3_goFirst_172 ?_
        refine G_iload_n dX3_goFirst_173 rfl ?_
        refine G_iload dX3_goFirst_174 rfl ?_
        refine G_iadd dX3_goFirst_176 ?_
        refine G_iload dX3_goFirst_177 rfl ?_
        obtain ⟨c52, hw⟩ := wp_ck hw
        refine G_callV (As := [.int (l1 + (1 : Int32)), .int (l2 + r32), .int (l3 + r47), .int l4]) (hR_X3_goFirst l0 (l1 + (1 : Int32)) (l2 + r32) (l3 + r47) l4 h48 _ (wp_cl hw)) ca_X3_goFirst w_1136 w_29 (ci := 3) rfl (by decide) w_1134 c52 (Nat.le_refl _) (Nat.le_of_ble_eq_true rfl) rfl (Nat.le_of_ble_eq_true rfl) (Nat.le_of_ble_eq_true rfl) (Nat.le_of_ble_eq_true rfl) dX3_goFirst_179 rfl (fun v h51 hq => ?_)
        obtain ⟨rfl, hw⟩ := hq
        refine G.cse (cs' := (0, 0)) rfl ?_
        show GZ _ _ _ _ _ _ _ 182 _ [] _ _
        exact G_vreturn rfl dX3_goFirst_182 ⟨rfl, wp_ret hw⟩
    · have hw := hw.2 c3
      refine G_aload_n dX3_goFirst_18 rfl ?_
      refine G_getR fl_X3_valley w_362 dX3_goFirst_19 c1 ?_
      obtain ⟨a53, ea53, hw⟩ := wp_rq hw
      refine G.sure ea53 ?_
      refine G_iload_n dX3_goFirst_22 rfl ?_
      refine G_iload_n dX3_goFirst_23 rfl ?_
      obtain ⟨c56, hw⟩ := wp_ck hw
      refine G_callV (As := [.int l2, .int l3]) (s_X6_signOf hs a53 l2 l3 h _ (wp_cl hw)) ca_X6_signOf w_1003 w_1004 (ci := 6) rfl (by decide) w_1133 c56 (by show 2 + 1 ≤ 42 + (d + 1); omega) (Nat.le_of_ble_eq_true rfl) rfl (Nat.le_of_ble_eq_true rfl) (Nat.le_of_ble_eq_true rfl) (Nat.le_of_ble_eq_true rfl) dX3_goFirst_24 rfl (fun v h55 hq => ?_)
      obtain ⟨r54, rfl, hw⟩ := hq
      refine G.cse (cs' := (0, 0)) rfl ?_
      show GZ _ _ _ _ _ _ _ 27 _ (.int r54 :: []) _ _
      refine G_aload_n dX3_goFirst_27 rfl ?_
      obtain ⟨c57, hw⟩ := wp_ck hw
      refine G_getI fl_X3_sign w_365 dX3_goFirst_28 c57 ?_
      have hw := wp_if hw
      refine G_icmp_ne (tgt := 64) dX3_goFirst_31 rfl (fun c58 => ?_) (fun c58 => ?_)
      · have hw := hw.2 c58
        exact G_vreturn rfl dX3_goFirst_64 ⟨rfl, wp_ret hw⟩
      · have hw := hw.1 c58
        refine G_aload_n dX3_goFirst_34 rfl ?_
        refine G_aload_n dX3_goFirst_35 rfl ?_
        refine G_getI fl_X3_second w_366 dX3_goFirst_36 c57 ?_
        refine G_bipush (v := (-2 : Int32)) dX3_goFirst_39 (by decide) ?_
        have hw := wp_if hw
        refine G_icmp_ne (tgt := 49) dX3_goFirst_41 rfl (fun c59 => ?_) (fun c59 => ?_)
        · have hw := hw.2 c59
          refine G_aload_n dX3_goFirst_49 rfl ?_
          refine G_iconst (v := (0 : Int32)) dX3_goFirst_50 (by decide) ?_
          refine G_iconst (v := (0 : Int32)) dX3_goFirst_51 (by decide) ?_
          refine G_iload dX3_goFirst_52 rfl ?_
          refine G_aload_n dX3_goFirst_54 rfl ?_
          refine G_getI fl_X3_fewest w_367 dX3_goFirst_55 c57 ?_
          refine G_callV (As := [.int (0 : Int32), .int (0 : Int32), .int l4, .int (hI h55 l0 14)]) (s_X3_fewestThen hs 40 l0 (0 : Int32) (0 : Int32) l4 (hI h55 l0 14) h55 _ (wp_cl hw)) ca_X3_fewestThen w_1140 w_30 (ci := 3) rfl (by decide) w_1138 c57 (by show 41 + 1 ≤ 42 + (d + 1); omega) (Nat.le_of_ble_eq_true rfl) rfl (Nat.le_of_ble_eq_true rfl) (Nat.le_of_ble_eq_true rfl) (Nat.le_of_ble_eq_true rfl) dX3_goFirst_58 rfl (fun v h61 hq => ?_)
          obtain ⟨r60, rfl, hw⟩ := hq
          refine G.cse (cs' := (0, 0)) rfl ?_
          show GZ _ _ _ _ _ _ _ 61 _ (.int r60 :: [.ref l0]) _ _
          refine G.less [none, none, none, none, none, none, none, none, none, none] trivial ?_
          exact f_X3_goFirst_61_ok hs hR_X3_goFirst _ _ h61 Q hw
        · have hw := hw.1 c59
          refine G_iload dX3_goFirst_44 rfl ?_
          refine G_goto (tgt := 61) dX3_goFirst_46 rfl ?_
          refine G.less [none, none, none, none, none, none, none, none, none, none] trivial ?_
          exact f_X3_goFirst_61_ok hs hR_X3_goFirst _ _ h55 Q hw
  · have hw := hw.2 c2
    exact G_vreturn rfl dX3_goFirst_9 ⟨rfl, wp_ret hw⟩
theorem s_X3_goFirst {Γ : GX} (hs : SF Γ) {N : Nat} : ∀ (d : Nat) (z0 : Nat) (z1 : Int32) (z2 : Int32) (z3 : Int32) (z4 : Int32) (h : PH) (Q : Unit → PH → Prop), wp (f_X3_goFirst d N z0 z1 z2 z3 z4 h) Q → Spec Γ yX3_goFirst cX3_goFirst 10 none (42 + d, 0, 0) [.ref z0, .int z1, .int z2, .int z3, .int z4] h (q_u Q)
  | 0, _, _, _, _, _, _, Q, hw => (wp_no hw).elim
  | d + 1, z0, z1, z2, z3, z4, h, Q, hw => s_X3_goFirst_b hs (s_X3_goFirst hs d) z0 z1 z2 z3 z4 h Q hw
