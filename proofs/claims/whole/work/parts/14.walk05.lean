set_option maxHeartbeats 4000000 in
set_option maxRecDepth 100000 in
theorem f_X11_mostAlike_115_ok {Γ : GX} (hs : SF Γ) {N : Nat} {K_45 : Nat → Int32 → Int32 → Int32 → Int32 → Int32 → PH → Option (Int32 × PH)} (hK_45 : ∀ (l0 : Nat) (l1 : Int32) (l2 : Int32) (l3 : Int32) (l4 : Int32) (l5 : Int32) (h : PH) (Q : Int32 → PH → Prop), wp (K_45 l0 l1 l2 l3 l4 l5 h) Q → G Γ yX11_mostAlike cX11_mostAlike 7 (some .int) (11, 0, 0) 45 [some (.ref l0), some (.int l1), some (.int l2), some (.int l3), some (.int l4), some (.int l5), none] [] h (0, 0) (q_i Q)) (l0 : Nat) (l1 : Int32) (l2 : Int32) (l3 : Int32) (l4 : Int32) (h : PH) (Q : Int32 → PH → Prop) (hw : wp (f_X11_mostAlike_115 N K_45 l0 l1 l2 l3 l4 h) Q) : G Γ yX11_mostAlike cX11_mostAlike 7 (some .int) (11, 0, 0) 115 [some (.ref l0), some (.int l1), some (.int l2), some (.int l3), some (.int l4), none, none] [] h (0, 0) (q_i Q) := by
  unfold f_X11_mostAlike_115 at hw
  refine G_aload_n dX11_mostAlike_115 rfl ?_
  refine G_iload_n dX11_mostAlike_116 rfl ?_
  obtain ⟨c3, hw⟩ := wp_ck hw
  refine G_callV (As := [.int l3]) (s_X11_nextWay hs l0 l3 h _ (wp_cl hw)) ca_X11_nextWay w_1949 w_109 (ci := 10) rfl (by decide) w_1947 c3 (Nat.le_of_ble_eq_true rfl) (Nat.le_of_ble_eq_true rfl) rfl (Nat.le_of_ble_eq_true rfl) (Nat.le_of_ble_eq_true rfl) (Nat.le_of_ble_eq_true rfl) dX11_mostAlike_117 rfl (fun v h2 hq => ?_)
  obtain ⟨r1, rfl, hw⟩ := hq
  refine G.cse (cs' := (0, 0)) rfl ?_
  show GZ _ _ _ _ _ _ _ 120 _ (.int r1 :: []) _ _
  refine G_istore (lv' := [some (.ref l0), some (.int l1), some (.int l2), some (.int l3), some (.int l4), some (.int r1), none]) dX11_mostAlike_120 (Nat.le_of_ble_eq_true rfl) rfl ?_
  refine G_goto (tgt := 45) dX11_mostAlike_122 rfl ?_
  refine G.less [some (.ref l0), some (.int l1), some (.int l2), some (.int l3), some (.int l4), some (.int r1), none] ⟨rfl, ⟨rfl, ⟨rfl, ⟨rfl, ⟨rfl, ⟨rfl, trivial⟩⟩⟩⟩⟩⟩ ?_
  exact hK_45 _ _ _ _ _ _ h2 Q hw
set_option maxHeartbeats 4000000 in
set_option maxRecDepth 100000 in
theorem f_X11_mostAlike_88_ok {Γ : GX} (hs : SF Γ) {N : Nat} {K_45 : Nat → Int32 → Int32 → Int32 → Int32 → Int32 → PH → Option (Int32 × PH)} (hK_45 : ∀ (l0 : Nat) (l1 : Int32) (l2 : Int32) (l3 : Int32) (l4 : Int32) (l5 : Int32) (h : PH) (Q : Int32 → PH → Prop), wp (K_45 l0 l1 l2 l3 l4 l5 h) Q → G Γ yX11_mostAlike cX11_mostAlike 7 (some .int) (11, 0, 0) 45 [some (.ref l0), some (.int l1), some (.int l2), some (.int l3), some (.int l4), some (.int l5), none] [] h (0, 0) (q_i Q)) (s0 : Int32) (l0 : Nat) (l1 : Int32) (l2 : Int32) (l3 : Int32) (l4 : Int32) (h : PH) (Q : Int32 → PH → Prop) (hw : wp (f_X11_mostAlike_88 N K_45 s0 l0 l1 l2 l3 l4 h) Q) : G Γ yX11_mostAlike cX11_mostAlike 7 (some .int) (11, 0, 0) 88 [some (.ref l0), some (.int l1), some (.int l2), some (.int l3), some (.int l4), none, none] [.int s0] h (0, 0) (q_i Q) := by
  unfold f_X11_mostAlike_88 at hw
  refine G_istore (lv' := [some (.ref l0), some (.int l1), some (.int l2), some (.int l3), some (.int l4), none, some (.int s0)]) dX11_mostAlike_88 (Nat.le_of_ble_eq_true rfl) rfl ?_
  refine G_aload_n dX11_mostAlike_90 rfl ?_
  obtain ⟨c1, hw⟩ := wp_ck hw
  refine G_getR fl_X11_alike w_1457 dX11_mostAlike_91 c1 ?_
  obtain ⟨a2, ea2, hw⟩ := wp_rq hw
  refine G.sure ea2 ?_
  refine G_iload dX11_mostAlike_94 rfl ?_
  refine G_dup2 dX11_mostAlike_96 rfl rfl ?_
  obtain ⟨c3, hw⟩ := wp_ck hw
  obtain ⟨c4, hw⟩ := wp_ck hw
  refine G_iaload dX11_mostAlike_97 c3 c4 ?_
  refine G_iconst (v := (1 : Int32)) dX11_mostAlike_98 (by decide) ?_
  refine G_iadd dX11_mostAlike_99 ?_
  refine G_iastore dX11_mostAlike_100 c3 c4 ?_
  refine G.nmh fun h5 eh5 => ?_
  have hw := wp_bd hw h5 eh5
  refine G_iload dX11_mostAlike_101 rfl ?_
  refine G_aload_n dX11_mostAlike_103 rfl ?_
  obtain ⟨c6, hw⟩ := wp_ck hw
  refine G_getR fl_X11_alike w_1457 dX11_mostAlike_104 c6 ?_
  obtain ⟨a7, ea7, hw⟩ := wp_rq hw
  refine G.sure ea7 ?_
  refine G_iload dX11_mostAlike_107 rfl ?_
  obtain ⟨c8, hw⟩ := wp_ck hw
  obtain ⟨c9, hw⟩ := wp_ck hw
  refine G_iaload dX11_mostAlike_109 c8 c9 ?_
  refine G_mmax w_1392 w_639 w_139 w_640 dX11_mostAlike_110 (Nat.le_of_ble_eq_true rfl) (Nat.le_of_ble_eq_true rfl) (Nat.le_of_ble_eq_true rfl) (Nat.le_of_ble_eq_true rfl) ?_
  refine G.topi fun v10 ev10 => ?_
  have hw := wp_bd hw v10 ev10
  refine G_istore (lv' := [some (.ref l0), some (.int l1), some (.int l2), some (.int l3), some (.int v10), none, some (.int s0)]) dX11_mostAlike_113 (Nat.le_of_ble_eq_true rfl) rfl ?_
  refine G.less [some (.ref l0), some (.int l1), some (.int l2), some (.int l3), some (.int v10), none, none] ⟨rfl, ⟨rfl, ⟨rfl, ⟨rfl, ⟨rfl, trivial⟩⟩⟩⟩⟩ ?_
  exact f_X11_mostAlike_115_ok hs hK_45 _ _ _ _ _ h5 Q hw
set_option maxHeartbeats 4000000 in
set_option maxRecDepth 100000 in
theorem f_X11_mostAlike_45_bok {Γ : GX} (hs : SF Γ) {N : Nat} {K_45 : Nat → Int32 → Int32 → Int32 → Int32 → Int32 → PH → Option (Int32 × PH)} (hK_45 : ∀ (l0 : Nat) (l1 : Int32) (l2 : Int32) (l3 : Int32) (l4 : Int32) (l5 : Int32) (h : PH) (Q : Int32 → PH → Prop), wp (K_45 l0 l1 l2 l3 l4 l5 h) Q → G Γ yX11_mostAlike cX11_mostAlike 7 (some .int) (11, 0, 0) 45 [some (.ref l0), some (.int l1), some (.int l2), some (.int l3), some (.int l4), some (.int l5), none] [] h (0, 0) (q_i Q)) (l0 : Nat) (l1 : Int32) (l2 : Int32) (l3 : Int32) (l4 : Int32) (l5 : Int32) (h : PH) (Q : Int32 → PH → Prop) (hw : wp (f_X11_mostAlike_45_b N K_45 l0 l1 l2 l3 l4 l5 h) Q) : G Γ yX11_mostAlike cX11_mostAlike 7 (some .int) (11, 0, 0) 45 [some (.ref l0), some (.int l1), some (.int l2), some (.int l3), some (.int l4), some (.int l5), none] [] h (0, 0) (q_i Q) := by
  unfold f_X11_mostAlike_45_b at hw
  refine G_iload dX11_mostAlike_45 rfl ?_
  have hw := wp_if hw
  refine G_if_eq (tgt := 125) dX11_mostAlike_47 rfl (fun c1 => ?_) (fun c1 => ?_)
  · have hw := hw.1 c1
    refine G_iload dX11_mostAlike_125 rfl ?_
    exact G_ireturn rfl dX11_mostAlike_127 ⟨_, rfl, wp_ret hw⟩
  · have hw := hw.2 c1
    refine G_aload_n dX11_mostAlike_50 rfl ?_
    obtain ⟨c4, hw⟩ := wp_ck hw
    refine G_callV (As := []) (s_X11_isAllSeen hs l0 h _ (wp_cl hw)) ca_X11_isAllSeen w_1986 w_114 (ci := 10) rfl (by decide) w_1984 c4 (Nat.le_of_ble_eq_true rfl) (Nat.le_of_ble_eq_true rfl) rfl (Nat.le_of_ble_eq_true rfl) (Nat.le_of_ble_eq_true rfl) (Nat.le_of_ble_eq_true rfl) dX11_mostAlike_51 rfl (fun v h3 hq => ?_)
    obtain ⟨r2, rfl, hw⟩ := hq
    refine G.cse (cs' := (0, 0)) rfl ?_
    show GZ _ _ _ _ _ _ _ 54 _ (.int r2 :: []) _ _
    have hw := wp_if hw
    refine G_if_eq (tgt := 115) dX11_mostAlike_54 rfl (fun c5 => ?_) (fun c5 => ?_)
    · have hw := hw.1 c5
      refine G.less [some (.ref l0), some (.int l1), some (.int l2), some (.int l3), some (.int l4), none, none] ⟨rfl, ⟨rfl, ⟨rfl, ⟨rfl, ⟨rfl, trivial⟩⟩⟩⟩⟩ ?_
      exact f_X11_mostAlike_115_ok hs hK_45 _ _ _ _ _ h3 Q hw
    · have hw := hw.2 c5
      refine G_aload_n dX11_mostAlike_57 rfl ?_
      obtain ⟨c6, hw⟩ := wp_ck hw
      refine G_getR fl_X11_sight w_1411 dX11_mostAlike_58 c6 ?_
      obtain ⟨a7, ea7, hw⟩ := wp_rq hw
      refine G.sure ea7 ?_
      refine G_iload_n dX11_mostAlike_61 rfl ?_
      obtain ⟨c8, hw⟩ := wp_ck hw
      obtain ⟨c9, hw⟩ := wp_ck hw
      refine G_iaload dX11_mostAlike_62 c8 c9 ?_
      refine G_iconst (v := (2 : Int32)) dX11_mostAlike_63 (by decide) ?_
      have hw := wp_if hw
      refine G_icmp_ne (tgt := 77) dX11_mostAlike_64 rfl (fun c10 => ?_) (fun c10 => ?_)
      · have hw := hw.2 c10
        refine G_aload_n dX11_mostAlike_77 rfl ?_
        refine G_iload_n dX11_mostAlike_78 rfl ?_
        refine G_aload_n dX11_mostAlike_79 rfl ?_
        refine G_getR fl_X11_sight w_1411 dX11_mostAlike_80 c6 ?_
        obtain ⟨a11, ea11, hw⟩ := wp_rq hw
        refine G.sure ea11 ?_
        refine G_iload_n dX11_mostAlike_83 rfl ?_
        obtain ⟨c12, hw⟩ := wp_ck hw
        obtain ⟨c13, hw⟩ := wp_ck hw
        refine G_iaload dX11_mostAlike_84 c12 c13 ?_
        refine G_callV (As := [.int l2, .int (hI h3 a11 (ix l1))]) (s_X11_smokeBy hs l0 l2 (hI h3 a11 (ix l1)) h3 _ (wp_cl hw)) ca_X11_smokeBy w_1933 w_105 (ci := 10) rfl (by decide) w_1931 c6 (Nat.le_of_ble_eq_true rfl) (Nat.le_of_ble_eq_true rfl) rfl (Nat.le_of_ble_eq_true rfl) (Nat.le_of_ble_eq_true rfl) (Nat.le_of_ble_eq_true rfl) dX11_mostAlike_85 rfl (fun v h15 hq => ?_)
        obtain ⟨r14, rfl, hw⟩ := hq
        refine G.cse (cs' := (0, 0)) rfl ?_
        show GZ _ _ _ _ _ _ _ 88 _ (.int r14 :: []) _ _
        refine G.less [some (.ref l0), some (.int l1), some (.int l2), some (.int l3), some (.int l4), none, none] ⟨rfl, ⟨rfl, ⟨rfl, ⟨rfl, ⟨rfl, trivial⟩⟩⟩⟩⟩ ?_
        exact f_X11_mostAlike_88_ok hs hK_45 _ _ _ _ _ _ h15 Q hw
      · have hw := hw.1 c10
        refine G_iconst (v := (1 : Int32)) dX11_mostAlike_67 (by decide) ?_
        refine G_aload_n dX11_mostAlike_68 rfl ?_
        refine G_iload_n dX11_mostAlike_69 rfl ?_
        refine G_callV (As := [.int l2]) (s_X11_signBy hs l0 l2 h3 _ (wp_cl hw)) ca_X11_signBy w_1929 w_104 (ci := 10) rfl (by decide) w_1927 c6 (Nat.le_of_ble_eq_true rfl) (Nat.le_of_ble_eq_true rfl) rfl (Nat.le_of_ble_eq_true rfl) (Nat.le_of_ble_eq_true rfl) (Nat.le_of_ble_eq_true rfl) dX11_mostAlike_70 rfl (fun v h17 hq => ?_)
        obtain ⟨r16, rfl, hw⟩ := hq
        refine G.cse (cs' := (0, 0)) rfl ?_
        show GZ _ _ _ _ _ _ _ 73 _ (.int r16 :: [.int (1 : Int32)]) _ _
        refine G_iadd dX11_mostAlike_73 ?_
        refine G_goto (tgt := 88) dX11_mostAlike_74 rfl ?_
        refine G.less [some (.ref l0), some (.int l1), some (.int l2), some (.int l3), some (.int l4), none, none] ⟨rfl, ⟨rfl, ⟨rfl, ⟨rfl, ⟨rfl, trivial⟩⟩⟩⟩⟩ ?_
        exact f_X11_mostAlike_88_ok hs hK_45 _ _ _ _ _ _ h17 Q hw
theorem f_X11_mostAlike_45_ok {Γ : GX} (hs : SF Γ) {N : Nat} : ∀ (n : Nat) (l0 : Nat) (l1 : Int32) (l2 : Int32) (l3 : Int32) (l4 : Int32) (l5 : Int32) (h : PH) (Q : Int32 → PH → Prop), wp (f_X11_mostAlike_45 N n l0 l1 l2 l3 l4 l5 h) Q → G Γ yX11_mostAlike cX11_mostAlike 7 (some .int) (11, 0, 0) 45 [some (.ref l0), some (.int l1), some (.int l2), some (.int l3), some (.int l4), some (.int l5), none] [] h (0, 0) (q_i Q)
  | 0, _, _, _, _, _, _, _, Q, hw => (wp_no hw).elim
  | n + 1, l0, l1, l2, l3, l4, l5, h, Q, hw => f_X11_mostAlike_45_bok (N := N) hs (f_X11_mostAlike_45_ok (N := N) hs n) l0 l1 l2 l3 l4 l5 h Q hw
set_option maxHeartbeats 4000000 in
set_option maxRecDepth 100000 in
theorem f_X11_mostAlike_15_bok {Γ : GX} (hs : SF Γ) {N : Nat} {K_15 : Nat → Int32 → Int32 → Int32 → Int32 → Int32 → PH → Option (Int32 × PH)} (hK_15 : ∀ (l0 : Nat) (l1 : Int32) (l2 : Int32) (l3 : Int32) (l4 : Int32) (l5 : Int32) (h : PH) (Q : Int32 → PH → Prop), wp (K_15 l0 l1 l2 l3 l4 l5 h) Q → G Γ yX11_mostAlike cX11_mostAlike 7 (some .int) (11, 0, 0) 15 [some (.ref l0), some (.int l1), some (.int l2), some (.int l3), some (.int l4), some (.int l5), none] [] h (0, 0) (q_i Q)) (l0 : Nat) (l1 : Int32) (l2 : Int32) (l3 : Int32) (l4 : Int32) (l5 : Int32) (h : PH) (Q : Int32 → PH → Prop) (hw : wp (f_X11_mostAlike_15_b N K_15 l0 l1 l2 l3 l4 l5 h) Q) : G Γ yX11_mostAlike cX11_mostAlike 7 (some .int) (11, 0, 0) 15 [some (.ref l0), some (.int l1), some (.int l2), some (.int l3), some (.int l4), some (.int l5), none] [] h (0, 0) (q_i Q) := by
  unfold f_X11_mostAlike_15_b at hw
  refine G_iload dX11_mostAlike_15 rfl ?_
  refine G_sipush (v := (1001 : Int32)) dX11_mostAlike_17 (by decide) ?_
  have hw := wp_if hw
  refine G_icmp_ge (tgt := 37) dX11_mostAlike_20 rfl (fun c1 => ?_) (fun c1 => ?_)
  · have hw := hw.1 c1
    refine G_aload_n dX11_mostAlike_37 rfl ?_
    refine G_iload_n dX11_mostAlike_38 rfl ?_
    obtain ⟨c4, hw⟩ := wp_ck hw
    refine G_callV (As := [.int l3]) (s_X11_firstWay hs l0 l3 h _ (wp_cl hw)) ca_X11_firstWay w_1913 w_100 (ci := 10) rfl (by decide) w_1911 c4 (Nat.le_of_ble_eq_true rfl) (Nat.le_of_ble_eq_true rfl) rfl (Nat.le_of_ble_eq_true rfl) (Nat.le_of_ble_eq_true rfl) (Nat.le_of_ble_eq_true rfl) dX11_mostAlike_39 rfl (fun v h3 hq => ?_)
    obtain ⟨rfl, hw⟩ := hq
    refine G.cse (cs' := (0, 0)) rfl ?_
    show GZ _ _ _ _ _ _ _ 42 _ [] _ _
    refine G_iconst (v := (1 : Int32)) dX11_mostAlike_42 (by decide) ?_
    refine G_istore (lv' := [some (.ref l0), some (.int l1), some (.int l2), some (.int l3), some (.int l4), some (.int (1 : Int32)), none]) dX11_mostAlike_43 (Nat.le_of_ble_eq_true rfl) rfl ?_
    refine G.less [some (.ref l0), some (.int l1), some (.int l2), some (.int l3), some (.int l4), some (.int (1 : Int32)), none] ⟨rfl, ⟨rfl, ⟨rfl, ⟨rfl, ⟨rfl, ⟨rfl, trivial⟩⟩⟩⟩⟩⟩ ?_
    exact f_X11_mostAlike_45_ok hs N _ _ _ _ _ _ h3 Q hw
  · have hw := hw.2 c1
    refine G_aload_n dX11_mostAlike_23 rfl ?_
    obtain ⟨c5, hw⟩ := wp_ck hw
    refine G_getR fl_X11_alike w_1457 dX11_mostAlike_24 c5 ?_
    obtain ⟨a6, ea6, hw⟩ := wp_rq hw
    refine G.sure ea6 ?_
    refine G_iload dX11_mostAlike_27 rfl ?_
    refine G_iconst (v := (0 : Int32)) dX11_mostAlike_29 (by decide) ?_
    obtain ⟨c7, hw⟩ := wp_ck hw
    obtain ⟨c8, hw⟩ := wp_ck hw
    refine G_iastore dX11_mostAlike_30 c7 c8 ?_
    refine G.nmh fun h9 eh9 => ?_
    have hw := wp_bd hw h9 eh9
    obtain ⟨v10, ev10⟩ : ∃ z : Int32, z = l5 + (1 : Int32) := ⟨_, rfl⟩
    have hw := wp_bd hw v10 ev10
    refine G_iinc (v := v10) (lv' := [some (.ref l0), some (.int l1), some (.int l2), some (.int l3), some (.int l4), some (.int v10), none]) dX11_mostAlike_31 rfl (by rw [ev10]; rfl) (Nat.le_of_ble_eq_true rfl) rfl ?_
    refine G_goto (tgt := 15) dX11_mostAlike_34 rfl ?_
    refine G.less [some (.ref l0), some (.int l1), some (.int l2), some (.int l3), some (.int l4), some (.int v10), none] ⟨rfl, ⟨rfl, ⟨rfl, ⟨rfl, ⟨rfl, ⟨rfl, trivial⟩⟩⟩⟩⟩⟩ ?_
    exact hK_15 _ _ _ _ _ _ h9 Q hw
theorem f_X11_mostAlike_15_ok {Γ : GX} (hs : SF Γ) {N : Nat} : ∀ (n : Nat) (l0 : Nat) (l1 : Int32) (l2 : Int32) (l3 : Int32) (l4 : Int32) (l5 : Int32) (h : PH) (Q : Int32 → PH → Prop), wp (f_X11_mostAlike_15 N n l0 l1 l2 l3 l4 l5 h) Q → G Γ yX11_mostAlike cX11_mostAlike 7 (some .int) (11, 0, 0) 15 [some (.ref l0), some (.int l1), some (.int l2), some (.int l3), some (.int l4), some (.int l5), none] [] h (0, 0) (q_i Q)
  | 0, _, _, _, _, _, _, _, Q, hw => (wp_no hw).elim
  | n + 1, l0, l1, l2, l3, l4, l5, h, Q, hw => f_X11_mostAlike_15_bok (N := N) hs (f_X11_mostAlike_15_ok (N := N) hs n) l0 l1 l2 l3 l4 l5 h Q hw
set_option maxHeartbeats 4000000 in
set_option maxRecDepth 100000 in
theorem s_X11_mostAlike {Γ : GX} (hs : SF Γ) {N : Nat} (l0 : Nat) (l1 : Int32) (l2 : Int32) (h : PH) (Q : Int32 → PH → Prop) (hw : wp (f_X11_mostAlike N l0 l1 l2 h) Q) : Spec Γ yX11_mostAlike cX11_mostAlike 7 (some .int) (11, 0, 0) [.ref l0, .int l1, .int l2] h (q_i Q) := by
  refine Spec.of (by decide) (Nat.le_of_ble_eq_true rfl) [some (.ref l0), some (.int l1), some (.int l2), none, none, none, none] rfl ?_
  unfold f_X11_mostAlike at hw
  refine G_aload_n dX11_mostAlike_0 rfl ?_
  refine G_aload_n dX11_mostAlike_1 rfl ?_
  obtain ⟨c3, hw⟩ := wp_ck hw
  refine G_callV (As := []) (s_X11_allHouses hs l0 h _ (wp_cl hw)) ca_X11_allHouses w_1982 w_113 (ci := 10) rfl (by decide) w_1980 c3 (Nat.le_of_ble_eq_true rfl) (Nat.le_of_ble_eq_true rfl) rfl (Nat.le_of_ble_eq_true rfl) (Nat.le_of_ble_eq_true rfl) (Nat.le_of_ble_eq_true rfl) dX11_mostAlike_2 rfl (fun v h2 hq => ?_)
  obtain ⟨r1, rfl, hw⟩ := hq
  refine G.cse (cs' := (0, 0)) rfl ?_
  show GZ _ _ _ _ _ _ _ 5 _ (.int r1 :: [.ref l0]) _ _
  obtain ⟨c6, hw⟩ := wp_ck hw
  refine G_callV (As := [.int r1]) (s_X11_withoutFire hs l0 r1 h2 _ (wp_cl hw)) ca_X11_withoutFire w_1909 w_99 (ci := 10) rfl (by decide) w_1907 c6 (Nat.le_of_ble_eq_true rfl) (Nat.le_of_ble_eq_true rfl) rfl (Nat.le_of_ble_eq_true rfl) (Nat.le_of_ble_eq_true rfl) (Nat.le_of_ble_eq_true rfl) dX11_mostAlike_5 rfl (fun v h5 hq => ?_)
  obtain ⟨r4, rfl, hw⟩ := hq
  refine G.cse (cs' := (0, 0)) rfl ?_
  show GZ _ _ _ _ _ _ _ 8 _ (.int r4 :: []) _ _
  refine G_istore_n (lv' := [some (.ref l0), some (.int l1), some (.int l2), some (.int r4), none, none, none]) dX11_mostAlike_8 (Nat.le_of_ble_eq_true rfl) rfl ?_
  refine G_iconst (v := (0 : Int32)) dX11_mostAlike_9 (by decide) ?_
  refine G_istore (lv' := [some (.ref l0), some (.int l1), some (.int l2), some (.int r4), some (.int (0 : Int32)), none, none]) dX11_mostAlike_10 (Nat.le_of_ble_eq_true rfl) rfl ?_
  refine G_iconst (v := (0 : Int32)) dX11_mostAlike_12 (by decide) ?_
  refine G_istore (lv' := [some (.ref l0), some (.int l1), some (.int l2), some (.int r4), some (.int (0 : Int32)), some (.int (0 : Int32)), none]) dX11_mostAlike_13 (Nat.le_of_ble_eq_true rfl) rfl ?_
  refine G.less [some (.ref l0), some (.int l1), some (.int l2), some (.int r4), some (.int (0 : Int32)), some (.int (0 : Int32)), none] ⟨rfl, ⟨rfl, ⟨rfl, ⟨rfl, ⟨rfl, ⟨rfl, trivial⟩⟩⟩⟩⟩⟩ ?_
  exact f_X11_mostAlike_15_ok hs N _ _ _ _ _ _ h5 Q hw
set_option maxHeartbeats 4000000 in
set_option maxRecDepth 100000 in
theorem f_X11_ask_66_ok {Γ : GX} (hs : SF Γ) {N : Nat} {K_14 : Nat → Int32 → Int32 → Int32 → PH → Option (Int32 × PH)} {K_27 : Nat → Int32 → Int32 → Int32 → Int32 → PH → Option (Int32 × PH)} (hK_14 : ∀ (l0 : Nat) (l1 : Int32) (l2 : Int32) (l3 : Int32) (h : PH) (Q : Int32 → PH → Prop), wp (K_14 l0 l1 l2 l3 h) Q → G Γ yX11_ask cX11_ask 6 (some .int) (12, 0, 0) 14 [some (.ref l0), some (.int l1), some (.int l2), some (.int l3), none, none] [] h (0, 0) (q_i Q)) (hK_27 : ∀ (l0 : Nat) (l1 : Int32) (l2 : Int32) (l3 : Int32) (l4 : Int32) (h : PH) (Q : Int32 → PH → Prop), wp (K_27 l0 l1 l2 l3 l4 h) Q → G Γ yX11_ask cX11_ask 6 (some .int) (12, 0, 0) 27 [some (.ref l0), some (.int l1), some (.int l2), some (.int l3), some (.int l4), none] [] h (0, 0) (q_i Q)) (l0 : Nat) (l1 : Int32) (l2 : Int32) (l3 : Int32) (l4 : Int32) (h : PH) (Q : Int32 → PH → Prop) (hw : wp (f_X11_ask_66 N K_14 K_27 l0 l1 l2 l3 l4 h) Q) : G Γ yX11_ask cX11_ask 6 (some .int) (12, 0, 0) 66 [some (.ref l0), some (.int l1), some (.int l2), some (.int l3), some (.int l4), none] [] h (0, 0) (q_i Q) := by
  unfold f_X11_ask_66 at hw
  obtain ⟨v1, ev1⟩ : ∃ z : Int32, z = l4 + (1 : Int32) := ⟨_, rfl⟩
  have hw := wp_bd hw v1 ev1
  refine G_iinc (v := v1) (lv' := [some (.ref l0), some (.int l1), some (.int l2), some (.int l3), some (.int v1), none]) dX11_ask_66 rfl (by rw [ev1]; rfl) (Nat.le_of_ble_eq_true rfl) rfl ?_
  refine G_goto (tgt := 27) dX11_ask_69 rfl ?_
  refine G.less [some (.ref l0), some (.int l1), some (.int l2), some (.int l3), some (.int v1), none] ⟨rfl, ⟨rfl, ⟨rfl, ⟨rfl, ⟨rfl, trivial⟩⟩⟩⟩⟩ ?_
  exact hK_27 _ _ _ _ _ h Q hw
set_option maxHeartbeats 4000000 in
set_option maxRecDepth 100000 in
theorem f_X11_ask_27_bok {Γ : GX} (hs : SF Γ) {N : Nat} {K_14 : Nat → Int32 → Int32 → Int32 → PH → Option (Int32 × PH)} {K_27 : Nat → Int32 → Int32 → Int32 → Int32 → PH → Option (Int32 × PH)} (hK_14 : ∀ (l0 : Nat) (l1 : Int32) (l2 : Int32) (l3 : Int32) (h : PH) (Q : Int32 → PH → Prop), wp (K_14 l0 l1 l2 l3 h) Q → G Γ yX11_ask cX11_ask 6 (some .int) (12, 0, 0) 14 [some (.ref l0), some (.int l1), some (.int l2), some (.int l3), none, none] [] h (0, 0) (q_i Q)) (hK_27 : ∀ (l0 : Nat) (l1 : Int32) (l2 : Int32) (l3 : Int32) (l4 : Int32) (h : PH) (Q : Int32 → PH → Prop), wp (K_27 l0 l1 l2 l3 l4 h) Q → G Γ yX11_ask cX11_ask 6 (some .int) (12, 0, 0) 27 [some (.ref l0), some (.int l1), some (.int l2), some (.int l3), some (.int l4), none] [] h (0, 0) (q_i Q)) (l0 : Nat) (l1 : Int32) (l2 : Int32) (l3 : Int32) (l4 : Int32) (h : PH) (Q : Int32 → PH → Prop) (hw : wp (f_X11_ask_27_b N K_14 K_27 l0 l1 l2 l3 l4 h) Q) : G Γ yX11_ask cX11_ask 6 (some .int) (12, 0, 0) 27 [some (.ref l0), some (.int l1), some (.int l2), some (.int l3), some (.int l4), none] [] h (0, 0) (q_i Q) := by
  unfold f_X11_ask_27_b at hw
  refine G_iload dX11_ask_27 rfl ?_
  refine G_aload_n dX11_ask_29 rfl ?_
  obtain ⟨c1, hw⟩ := wp_ck hw
  refine G_getR fl_X11_valley w_1403 dX11_ask_30 c1 ?_
  obtain ⟨a2, ea2, hw⟩ := wp_rq hw
  refine G.sure ea2 ?_
  refine G_iconst (v := (1 : Int32)) dX11_ask_33 (by decide) ?_
  obtain ⟨c3, hw⟩ := wp_ck hw
  obtain ⟨c4, hw⟩ := wp_ck hw
  refine G_ialoadK (k := 1) dX11_ask_34 c3 (by decide) rfl c4 ?_
  have hw := wp_if hw
  refine G_icmp_ge (tgt := 72) dX11_ask_35 rfl (fun c5 => ?_) (fun c5 => ?_)
  · have hw := hw.1 c5
    obtain ⟨v6, ev6⟩ : ∃ z : Int32, z = l3 + (1 : Int32) := ⟨_, rfl⟩
    have hw := wp_bd hw v6 ev6
    refine G_iinc (v := v6) (lv' := [some (.ref l0), some (.int l1), some (.int l2), some (.int v6), some (.int l4), none]) dX11_ask_72 rfl (by rw [ev6]; rfl) (Nat.le_of_ble_eq_true rfl) rfl ?_
    refine G_goto (tgt := 14) dX11_ask_75 rfl ?_
    refine G.less [some (.ref l0), some (.int l1), some (.int l2), some (.int v6), none, none] ⟨rfl, ⟨rfl, ⟨rfl, ⟨rfl, trivial⟩⟩⟩⟩ ?_
    exact hK_14 _ _ _ _ h Q hw
  · have hw := hw.2 c5
    refine G_aload_n dX11_ask_38 rfl ?_
    refine G_iload_n dX11_ask_39 rfl ?_
    refine G_iload dX11_ask_40 rfl ?_
    refine G_callV (As := [.int l3, .int l4]) (s_X11_mostAlike hs l0 l3 l4 h _ (wp_cl hw)) ca_X11_mostAlike w_2002 w_117 (ci := 10) rfl (by decide) w_2000 c1 (Nat.le_of_ble_eq_true rfl) (Nat.le_of_ble_eq_true rfl) rfl (Nat.le_of_ble_eq_true rfl) (Nat.le_of_ble_eq_true rfl) (Nat.le_of_ble_eq_true rfl) dX11_ask_42 rfl (fun v h8 hq => ?_)
    obtain ⟨r7, rfl, hw⟩ := hq
    refine G.cse (cs' := (0, 0)) rfl ?_
    show GZ _ _ _ _ _ _ _ 45 _ (.int r7 :: []) _ _
    refine G_istore (lv' := [some (.ref l0), some (.int l1), some (.int l2), some (.int l3), some (.int l4), some (.int r7)]) dX11_ask_45 (Nat.le_of_ble_eq_true rfl) rfl ?_
    refine G_iload dX11_ask_47 rfl ?_
    refine G_iload_n dX11_ask_49 rfl ?_
    have hw := wp_if hw
    refine G_icmp_lt (tgt := 56) dX11_ask_50 rfl (fun c9 => ?_) (fun c9 => ?_)
    · have hw := hw.1 c9
      refine G_iload dX11_ask_56 rfl ?_
      refine G_istore_n (lv' := [some (.ref l0), some (.int r7), some (.int l2), some (.int l3), some (.int l4), some (.int r7)]) dX11_ask_58 (Nat.le_of_ble_eq_true rfl) rfl ?_
      refine G_iconst (v := (3 : Int32)) dX11_ask_59 (by decide) ?_
      refine G_iload_n dX11_ask_60 rfl ?_
      refine G_imul dX11_ask_61 ?_
      refine G_iload dX11_ask_62 rfl ?_
      refine G_iadd dX11_ask_64 ?_
      refine G.topi fun v10 ev10 => ?_
      have hw := wp_bd hw v10 ev10
      refine G_istore_n (lv' := [some (.ref l0), some (.int r7), some (.int v10), some (.int l3), some (.int l4), some (.int r7)]) dX11_ask_65 (Nat.le_of_ble_eq_true rfl) rfl ?_
      refine G.less [some (.ref l0), some (.int r7), some (.int v10), some (.int l3), some (.int l4), none] ⟨rfl, ⟨rfl, ⟨rfl, ⟨rfl, ⟨rfl, trivial⟩⟩⟩⟩⟩ ?_
      exact f_X11_ask_66_ok hs hK_14 hK_27 _ _ _ _ _ h8 Q hw
    · have hw := hw.2 c9
      refine G_goto (tgt := 66) dX11_ask_53 rfl ?_
      refine G.less [some (.ref l0), some (.int l1), some (.int l2), some (.int l3), some (.int l4), none] ⟨rfl, ⟨rfl, ⟨rfl, ⟨rfl, ⟨rfl, trivial⟩⟩⟩⟩⟩ ?_
      exact f_X11_ask_66_ok hs hK_14 hK_27 _ _ _ _ _ h8 Q hw
theorem f_X11_ask_27_ok {Γ : GX} (hs : SF Γ) {N : Nat} {K_14 : Nat → Int32 → Int32 → Int32 → PH → Option (Int32 × PH)} (hK_14 : ∀ (l0 : Nat) (l1 : Int32) (l2 : Int32) (l3 : Int32) (h : PH) (Q : Int32 → PH → Prop), wp (K_14 l0 l1 l2 l3 h) Q → G Γ yX11_ask cX11_ask 6 (some .int) (12, 0, 0) 14 [some (.ref l0), some (.int l1), some (.int l2), some (.int l3), none, none] [] h (0, 0) (q_i Q)) : ∀ (n : Nat) (l0 : Nat) (l1 : Int32) (l2 : Int32) (l3 : Int32) (l4 : Int32) (h : PH) (Q : Int32 → PH → Prop), wp (f_X11_ask_27 N K_14 n l0 l1 l2 l3 l4 h) Q → G Γ yX11_ask cX11_ask 6 (some .int) (12, 0, 0) 27 [some (.ref l0), some (.int l1), some (.int l2), some (.int l3), some (.int l4), none] [] h (0, 0) (q_i Q)
  | 0, _, _, _, _, _, _, Q, hw => (wp_no hw).elim
  | n + 1, l0, l1, l2, l3, l4, h, Q, hw => f_X11_ask_27_bok (N := N) hs hK_14 (f_X11_ask_27_ok (N := N) hs hK_14 n) l0 l1 l2 l3 l4 h Q hw
set_option maxHeartbeats 4000000 in
set_option maxRecDepth 100000 in
theorem f_X11_ask_14_bok {Γ : GX} (hs : SF Γ) {N : Nat} {K_14 : Nat → Int32 → Int32 → Int32 → PH → Option (Int32 × PH)} (hK_14 : ∀ (l0 : Nat) (l1 : Int32) (l2 : Int32) (l3 : Int32) (h : PH) (Q : Int32 → PH → Prop), wp (K_14 l0 l1 l2 l3 h) Q → G Γ yX11_ask cX11_ask 6 (some .int) (12, 0, 0) 14 [some (.ref l0), some (.int l1), some (.int l2), some (.int l3), none, none] [] h (0, 0) (q_i Q)) (l0 : Nat) (l1 : Int32) (l2 : Int32) (l3 : Int32) (h : PH) (Q : Int32 → PH → Prop) (hw : wp (f_X11_ask_14_b N K_14 l0 l1 l2 l3 h) Q) : G Γ yX11_ask cX11_ask 6 (some .int) (12, 0, 0) 14 [some (.ref l0), some (.int l1), some (.int l2), some (.int l3), none, none] [] h (0, 0) (q_i Q) := by
  unfold f_X11_ask_14_b at hw
  refine G_iload_n dX11_ask_14 rfl ?_
  refine G_aload_n dX11_ask_15 rfl ?_
  obtain ⟨c1, hw⟩ := wp_ck hw
  refine G_getR fl_X11_valley w_1403 dX11_ask_16 c1 ?_
  obtain ⟨a2, ea2, hw⟩ := wp_rq hw
  refine G.sure ea2 ?_
  refine G_iconst (v := (4 : Int32)) dX11_ask_19 (by decide) ?_
  obtain ⟨c3, hw⟩ := wp_ck hw
  obtain ⟨c4, hw⟩ := wp_ck hw
  refine G_ialoadK (k := 4) dX11_ask_20 c3 (by decide) rfl c4 ?_
  have hw := wp_if hw
  refine G_icmp_ge (tgt := 78) dX11_ask_21 rfl (fun c5 => ?_) (fun c5 => ?_)
  · have hw := hw.1 c5
    refine G_iload_n dX11_ask_78 rfl ?_
    exact G_ireturn rfl dX11_ask_79 ⟨_, rfl, wp_ret hw⟩
  · have hw := hw.2 c5
    refine G_iconst (v := (0 : Int32)) dX11_ask_24 (by decide) ?_
    refine G_istore (lv' := [some (.ref l0), some (.int l1), some (.int l2), some (.int l3), some (.int (0 : Int32)), none]) dX11_ask_25 (Nat.le_of_ble_eq_true rfl) rfl ?_
    refine G.less [some (.ref l0), some (.int l1), some (.int l2), some (.int l3), some (.int (0 : Int32)), none] ⟨rfl, ⟨rfl, ⟨rfl, ⟨rfl, ⟨rfl, trivial⟩⟩⟩⟩⟩ ?_
    exact f_X11_ask_27_ok hs hK_14 N _ _ _ _ _ h Q hw
theorem f_X11_ask_14_ok {Γ : GX} (hs : SF Γ) {N : Nat} : ∀ (n : Nat) (l0 : Nat) (l1 : Int32) (l2 : Int32) (l3 : Int32) (h : PH) (Q : Int32 → PH → Prop), wp (f_X11_ask_14 N n l0 l1 l2 l3 h) Q → G Γ yX11_ask cX11_ask 6 (some .int) (12, 0, 0) 14 [some (.ref l0), some (.int l1), some (.int l2), some (.int l3), none, none] [] h (0, 0) (q_i Q)
  | 0, _, _, _, _, _, Q, hw => (wp_no hw).elim
  | n + 1, l0, l1, l2, l3, h, Q, hw => f_X11_ask_14_bok (N := N) hs (f_X11_ask_14_ok (N := N) hs n) l0 l1 l2 l3 h Q hw
set_option maxHeartbeats 4000000 in
set_option maxRecDepth 100000 in
theorem s_X11_ask {Γ : GX} (hs : SF Γ) {N : Nat} (l0 : Nat) (h : PH) (Q : Int32 → PH → Prop) (hw : wp (f_X11_ask N l0 h) Q) : Spec Γ yX11_ask cX11_ask 6 (some .int) (12, 0, 0) [.ref l0] h (q_i Q) := by
  refine Spec.of (by decide) (Nat.le_of_ble_eq_true rfl) [some (.ref l0), none, none, none, none, none] rfl ?_
  unfold f_X11_ask at hw
  refine G_aload_n dX11_ask_0 rfl ?_
  refine G_iconst (v := (0 : Int32)) dX11_ask_1 (by decide) ?_
  obtain ⟨c1, hw⟩ := wp_ck hw
  refine G_putI fl_X11_thrown w_1393 dX11_ask_2 c1 ?_
  refine G.nmh fun h2 eh2 => ?_
  have hw := wp_bd hw h2 eh2
  refine G_aload_n dX11_ask_5 rfl ?_
  obtain ⟨c5, hw⟩ := wp_ck hw
  refine G_callV (As := []) (s_X11_laysWays hs l0 h2 _ (wp_cl hw)) ca_X11_laysWays w_1978 w_112 (ci := 10) rfl (by decide) w_1976 c5 (Nat.le_of_ble_eq_true rfl) (Nat.le_of_ble_eq_true rfl) rfl (Nat.le_of_ble_eq_true rfl) (Nat.le_of_ble_eq_true rfl) (Nat.le_of_ble_eq_true rfl) dX11_ask_6 rfl (fun v h4 hq => ?_)
  obtain ⟨r3, rfl, hw⟩ := hq
  refine G.cse (cs' := (0, 0)) rfl ?_
  show GZ _ _ _ _ _ _ _ 9 _ (.int r3 :: []) _ _
  refine G_istore_n (lv' := [some (.ref l0), some (.int r3), none, none, none, none]) dX11_ask_9 (Nat.le_of_ble_eq_true rfl) rfl ?_
  refine G_iconst (v := (-1 : Int32)) dX11_ask_10 (by decide) ?_
  refine G_istore_n (lv' := [some (.ref l0), some (.int r3), some (.int (-1 : Int32)), none, none, none]) dX11_ask_11 (Nat.le_of_ble_eq_true rfl) rfl ?_
  refine G_iconst (v := (0 : Int32)) dX11_ask_12 (by decide) ?_
  refine G_istore_n (lv' := [some (.ref l0), some (.int r3), some (.int (-1 : Int32)), some (.int (0 : Int32)), none, none]) dX11_ask_13 (Nat.le_of_ble_eq_true rfl) rfl ?_
  refine G.less [some (.ref l0), some (.int r3), some (.int (-1 : Int32)), some (.int (0 : Int32)), none, none] ⟨rfl, ⟨rfl, ⟨rfl, ⟨rfl, trivial⟩⟩⟩⟩ ?_
  exact f_X11_ask_14_ok hs N _ _ _ _ h4 Q hw
set_option maxHeartbeats 4000000 in
set_option maxRecDepth 100000 in
theorem s_X11_areMet {Γ : GX} (hs : SF Γ) {N : Nat} (l0 : Nat) (l1 : Int32) (l2 : Int32) (l3 : Int32) (h : PH) (Q : Int32 → PH → Prop) (hw : wp (f_X11_areMet N l0 l1 l2 l3 h) Q) : Spec Γ yX11_areMet cX11_areMet 4 (some .boolean) (2, 0, 0) [.ref l0, .int l1, .int l2, .int l3] h (q_i Q) := by
  refine Spec.of (by decide) (Nat.le_of_ble_eq_true rfl) [some (.ref l0), some (.int l1), some (.int l2), some (.int l3)] rfl ?_
  unfold f_X11_areMet at hw
  refine G_aload_n dX11_areMet_0 rfl ?_
  obtain ⟨c1, hw⟩ := wp_ck hw
  refine G_getR fl_X11_signs w_1410 dX11_areMet_1 c1 ?_
  obtain ⟨a2, ea2, hw⟩ := wp_rq hw
  refine G.sure ea2 ?_
  refine G_iconst (v := (4 : Int32)) dX11_areMet_4 (by decide) ?_
  refine G_iload_n dX11_areMet_5 rfl ?_
  refine G_imul dX11_areMet_6 ?_
  refine G_iconst (v := (2 : Int32)) dX11_areMet_7 (by decide) ?_
  refine G_iload_n dX11_areMet_8 rfl ?_
  refine G_imul dX11_areMet_9 ?_
  refine G_iadd dX11_areMet_10 ?_
  obtain ⟨c3, hw⟩ := wp_ck hw
  obtain ⟨c4, hw⟩ := wp_ck hw
  refine G_iaload dX11_areMet_11 c3 c4 ?_
  refine G_aload_n dX11_areMet_12 rfl ?_
  refine G_getR fl_X11_signs w_1410 dX11_areMet_13 c1 ?_
  obtain ⟨a5, ea5, hw⟩ := wp_rq hw
  refine G.sure ea5 ?_
  refine G_iconst (v := (4 : Int32)) dX11_areMet_16 (by decide) ?_
  refine G_iload_n dX11_areMet_17 rfl ?_
  refine G_imul dX11_areMet_18 ?_
  refine G_iconst (v := (2 : Int32)) dX11_areMet_19 (by decide) ?_
  refine G_iload_n dX11_areMet_20 rfl ?_
  refine G_imul dX11_areMet_21 ?_
  refine G_iadd dX11_areMet_22 ?_
  obtain ⟨c6, hw⟩ := wp_ck hw
  obtain ⟨c7, hw⟩ := wp_ck hw
  refine G_iaload dX11_areMet_23 c6 c7 ?_
  refine G_mmax w_1392 w_639 w_139 w_640 dX11_areMet_24 (Nat.le_of_ble_eq_true rfl) (Nat.le_of_ble_eq_true rfl) (Nat.le_of_ble_eq_true rfl) (Nat.le_of_ble_eq_true rfl) ?_
  refine G_aload_n dX11_areMet_27 rfl ?_
  refine G_getR fl_X11_signs w_1410 dX11_areMet_28 c1 ?_
  obtain ⟨a8, ea8, hw⟩ := wp_rq hw
  refine G.sure ea8 ?_
  refine G_iconst (v := (4 : Int32)) dX11_areMet_31 (by decide) ?_
  refine G_iload_n dX11_areMet_32 rfl ?_
  refine G_imul dX11_areMet_33 ?_
  refine G_iconst (v := (2 : Int32)) dX11_areMet_34 (by decide) ?_
  refine G_iload_n dX11_areMet_35 rfl ?_
  refine G_imul dX11_areMet_36 ?_
  refine G_iadd dX11_areMet_37 ?_
  refine G_iconst (v := (1 : Int32)) dX11_areMet_38 (by decide) ?_
  refine G_iadd dX11_areMet_39 ?_
  obtain ⟨c9, hw⟩ := wp_ck hw
  obtain ⟨c10, hw⟩ := wp_ck hw
  refine G_iaload dX11_areMet_40 c9 c10 ?_
  refine G_aload_n dX11_areMet_41 rfl ?_
  refine G_getR fl_X11_signs w_1410 dX11_areMet_42 c1 ?_
  obtain ⟨a11, ea11, hw⟩ := wp_rq hw
  refine G.sure ea11 ?_
  refine G_iconst (v := (4 : Int32)) dX11_areMet_45 (by decide) ?_
  refine G_iload_n dX11_areMet_46 rfl ?_
  refine G_imul dX11_areMet_47 ?_
  refine G_iconst (v := (2 : Int32)) dX11_areMet_48 (by decide) ?_
  refine G_iload_n dX11_areMet_49 rfl ?_
  refine G_imul dX11_areMet_50 ?_
  refine G_iadd dX11_areMet_51 ?_
  refine G_iconst (v := (1 : Int32)) dX11_areMet_52 (by decide) ?_
  refine G_iadd dX11_areMet_53 ?_
  obtain ⟨c12, hw⟩ := wp_ck hw
  obtain ⟨c13, hw⟩ := wp_ck hw
  refine G_iaload dX11_areMet_54 c12 c13 ?_
  refine G_mmin w_1835 w_642 w_139 w_643 dX11_areMet_55 (Nat.le_of_ble_eq_true rfl) (Nat.le_of_ble_eq_true rfl) (Nat.le_of_ble_eq_true rfl) (Nat.le_of_ble_eq_true rfl) ?_
  have hw := wp_if hw
  refine G_icmp_gt (tgt := 65) dX11_areMet_58 rfl (fun c14 => ?_) (fun c14 => ?_)
  · have hw := hw.1 c14
    refine G_iconst (v := (0 : Int32)) dX11_areMet_65 (by decide) ?_
    exact G_zreturn rfl dX11_areMet_66 rfl ⟨_, rfl, wp_ret hw⟩
  · have hw := hw.2 c14
    refine G_iconst (v := (1 : Int32)) dX11_areMet_61 (by decide) ?_
    refine G_goto (tgt := 66) dX11_areMet_62 rfl ?_
    exact G_zreturn rfl dX11_areMet_66 rfl ⟨_, rfl, wp_ret hw⟩
set_option maxHeartbeats 4000000 in
set_option maxRecDepth 100000 in
theorem f_X11_blur_112_ok {Γ : GX} (hs : SF Γ) {N : Nat} {K_33 : Nat → Int32 → Int32 → Int32 → Int32 → PH → Option (Int32 × PH)} (hK_33 : ∀ (l0 : Nat) (l1 : Int32) (l2 : Int32) (l3 : Int32) (l4 : Int32) (h : PH) (Q : Int32 → PH → Prop), wp (K_33 l0 l1 l2 l3 l4 h) Q → G Γ yX11_blur cX11_blur 6 (some .int) (3, 0, 0) 33 [some (.ref l0), some (.int l1), some (.int l2), some (.int l3), some (.int l4), none] [] h (0, 0) (q_i Q)) (s0 : Int32) (s1 : Int32) (l0 : Nat) (l1 : Int32) (l2 : Int32) (l4 : Int32) (h : PH) (Q : Int32 → PH → Prop) (hw : wp (f_X11_blur_112 N K_33 s0 s1 l0 l1 l2 l4 h) Q) : G Γ yX11_blur cX11_blur 6 (some .int) (3, 0, 0) 112 [some (.ref l0), some (.int l1), some (.int l2), none, some (.int l4), none] [.int s0, .int s1] h (0, 0) (q_i Q) := by
  unfold f_X11_blur_112 at hw
  refine G_ior dX11_blur_112 ?_
  refine G.topi fun v1 ev1 => ?_
  have hw := wp_bd hw v1 ev1
  refine G_istore_n (lv' := [some (.ref l0), some (.int l1), some (.int l2), some (.int v1), some (.int l4), none]) dX11_blur_113 (Nat.le_of_ble_eq_true rfl) rfl ?_
  obtain ⟨v2, ev2⟩ : ∃ z : Int32, z = l4 + (1 : Int32) := ⟨_, rfl⟩
  have hw := wp_bd hw v2 ev2
  refine G_iinc (v := v2) (lv' := [some (.ref l0), some (.int l1), some (.int l2), some (.int v1), some (.int v2), none]) dX11_blur_114 rfl (by rw [ev2]; rfl) (Nat.le_of_ble_eq_true rfl) rfl ?_
  refine G_goto (tgt := 33) dX11_blur_117 rfl ?_
  refine G.less [some (.ref l0), some (.int l1), some (.int l2), some (.int v1), some (.int v2), none] ⟨rfl, ⟨rfl, ⟨rfl, ⟨rfl, ⟨rfl, trivial⟩⟩⟩⟩⟩ ?_
  exact hK_33 _ _ _ _ _ h Q hw
set_option maxHeartbeats 4000000 in
set_option maxRecDepth 100000 in
theorem f_X11_blur_96_ok {Γ : GX} (hs : SF Γ) {N : Nat} {K_33 : Nat → Int32 → Int32 → Int32 → Int32 → PH → Option (Int32 × PH)} (hK_33 : ∀ (l0 : Nat) (l1 : Int32) (l2 : Int32) (l3 : Int32) (l4 : Int32) (h : PH) (Q : Int32 → PH → Prop), wp (K_33 l0 l1 l2 l3 l4 h) Q → G Γ yX11_blur cX11_blur 6 (some .int) (3, 0, 0) 33 [some (.ref l0), some (.int l1), some (.int l2), some (.int l3), some (.int l4), none] [] h (0, 0) (q_i Q)) (s0 : Int32) (l0 : Nat) (l1 : Int32) (l2 : Int32) (l3 : Int32) (l4 : Int32) (h : PH) (Q : Int32 → PH → Prop) (hw : wp (f_X11_blur_96 N K_33 s0 l0 l1 l2 l3 l4 h) Q) : G Γ yX11_blur cX11_blur 6 (some .int) (3, 0, 0) 96 [some (.ref l0), some (.int l1), some (.int l2), some (.int l3), some (.int l4), none] [.int s0] h (0, 0) (q_i Q) := by
  unfold f_X11_blur_96 at hw
  refine G_istore (lv' := [some (.ref l0), some (.int l1), some (.int l2), some (.int l3), some (.int l4), some (.int s0)]) dX11_blur_96 (Nat.le_of_ble_eq_true rfl) rfl ?_
  refine G_iload_n dX11_blur_98 rfl ?_
  refine G_iload dX11_blur_99 rfl ?_
  have hw := wp_if hw
  refine G_if_eq (tgt := 111) dX11_blur_101 rfl (fun c1 => ?_) (fun c1 => ?_)
  · have hw := hw.1 c1
    refine G_iconst (v := (0 : Int32)) dX11_blur_111 (by decide) ?_
    refine G.less [some (.ref l0), some (.int l1), some (.int l2), none, some (.int l4), none] ⟨rfl, ⟨rfl, ⟨rfl, ⟨rfl, trivial⟩⟩⟩⟩ ?_
    exact f_X11_blur_112_ok hs hK_33 _ _ _ _ _ _ h Q hw
  · have hw := hw.2 c1
    refine G_iconst (v := (1 : Int32)) dX11_blur_104 (by decide) ?_
    refine G_iload dX11_blur_105 rfl ?_
    refine G_ishl dX11_blur_107 ?_
    refine G_goto (tgt := 112) dX11_blur_108 rfl ?_
    refine G.less [some (.ref l0), some (.int l1), some (.int l2), none, some (.int l4), none] ⟨rfl, ⟨rfl, ⟨rfl, ⟨rfl, trivial⟩⟩⟩⟩ ?_
    exact f_X11_blur_112_ok hs hK_33 _ _ _ _ _ _ h Q hw
set_option maxHeartbeats 4000000 in
set_option maxRecDepth 100000 in
theorem f_X11_blur_79_ok {Γ : GX} (hs : SF Γ) {N : Nat} {K_33 : Nat → Int32 → Int32 → Int32 → Int32 → PH → Option (Int32 × PH)} (hK_33 : ∀ (l0 : Nat) (l1 : Int32) (l2 : Int32) (l3 : Int32) (l4 : Int32) (h : PH) (Q : Int32 → PH → Prop), wp (K_33 l0 l1 l2 l3 l4 h) Q → G Γ yX11_blur cX11_blur 6 (some .int) (3, 0, 0) 33 [some (.ref l0), some (.int l1), some (.int l2), some (.int l3), some (.int l4), none] [] h (0, 0) (q_i Q)) (l0 : Nat) (l1 : Int32) (l2 : Int32) (l3 : Int32) (l4 : Int32) (h : PH) (Q : Int32 → PH → Prop) (hw : wp (f_X11_blur_79 N K_33 l0 l1 l2 l3 l4 h) Q) : G Γ yX11_blur cX11_blur 6 (some .int) (3, 0, 0) 79 [some (.ref l0), some (.int l1), some (.int l2), some (.int l3), some (.int l4), none] [] h (0, 0) (q_i Q) := by
  unfold f_X11_blur_79 at hw
  refine G_iconst (v := (0 : Int32)) dX11_blur_79 (by decide) ?_
  refine G_goto (tgt := 96) dX11_blur_80 rfl ?_
  refine G.less [some (.ref l0), some (.int l1), some (.int l2), some (.int l3), some (.int l4), none] ⟨rfl, ⟨rfl, ⟨rfl, ⟨rfl, ⟨rfl, trivial⟩⟩⟩⟩⟩ ?_
  exact f_X11_blur_96_ok hs hK_33 _ _ _ _ _ _ h Q hw
set_option maxHeartbeats 4000000 in
set_option maxRecDepth 100000 in
theorem f_X11_blur_33_bok {Γ : GX} (hs : SF Γ) {N : Nat} {K_33 : Nat → Int32 → Int32 → Int32 → Int32 → PH → Option (Int32 × PH)} (hK_33 : ∀ (l0 : Nat) (l1 : Int32) (l2 : Int32) (l3 : Int32) (l4 : Int32) (h : PH) (Q : Int32 → PH → Prop), wp (K_33 l0 l1 l2 l3 l4 h) Q → G Γ yX11_blur cX11_blur 6 (some .int) (3, 0, 0) 33 [some (.ref l0), some (.int l1), some (.int l2), some (.int l3), some (.int l4), none] [] h (0, 0) (q_i Q)) (l0 : Nat) (l1 : Int32) (l2 : Int32) (l3 : Int32) (l4 : Int32) (h : PH) (Q : Int32 → PH → Prop) (hw : wp (f_X11_blur_33_b N K_33 l0 l1 l2 l3 l4 h) Q) : G Γ yX11_blur cX11_blur 6 (some .int) (3, 0, 0) 33 [some (.ref l0), some (.int l1), some (.int l2), some (.int l3), some (.int l4), none] [] h (0, 0) (q_i Q) := by
  unfold f_X11_blur_33_b at hw
  refine G_iload dX11_blur_33 rfl ?_
  refine G_aload_n dX11_blur_35 rfl ?_
  obtain ⟨c1, hw⟩ := wp_ck hw
  refine G_getR fl_X11_valley w_1403 dX11_blur_36 c1 ?_
  obtain ⟨a2, ea2, hw⟩ := wp_rq hw
  refine G.sure ea2 ?_
  refine G_iconst (v := (4 : Int32)) dX11_blur_39 (by decide) ?_
  obtain ⟨c3, hw⟩ := wp_ck hw
  obtain ⟨c4, hw⟩ := wp_ck hw
  refine G_ialoadK (k := 4) dX11_blur_40 c3 (by decide) rfl c4 ?_
  have hw := wp_if hw
  refine G_icmp_ge (tgt := 120) dX11_blur_41 rfl (fun c5 => ?_) (fun c5 => ?_)
  · have hw := hw.1 c5
    refine G_iload_n dX11_blur_120 rfl ?_
    exact G_ireturn rfl dX11_blur_121 ⟨_, rfl, wp_ret hw⟩
  · have hw := hw.2 c5
    refine G_aload_n dX11_blur_44 rfl ?_
    refine G_getR fl_X11_sight w_1411 dX11_blur_45 c1 ?_
    obtain ⟨a6, ea6, hw⟩ := wp_rq hw
    refine G.sure ea6 ?_
    refine G_iload dX11_blur_48 rfl ?_
    obtain ⟨c7, hw⟩ := wp_ck hw
    obtain ⟨c8, hw⟩ := wp_ck hw
    refine G_iaload dX11_blur_50 c7 c8 ?_
    refine G_iconst (v := (2 : Int32)) dX11_blur_51 (by decide) ?_
    have hw := wp_if hw
    refine G_icmp_ne (tgt := 83) dX11_blur_52 rfl (fun c9 => ?_) (fun c9 => ?_)
    · have hw := hw.2 c9
      refine G_aload_n dX11_blur_83 rfl ?_
      refine G_iload_n dX11_blur_84 rfl ?_
      refine G_iload_n dX11_blur_85 rfl ?_
      refine G_aload_n dX11_blur_86 rfl ?_
      refine G_getR fl_X11_sight w_1411 dX11_blur_87 c1 ?_
      obtain ⟨a10, ea10, hw⟩ := wp_rq hw
      refine G.sure ea10 ?_
      refine G_iload dX11_blur_90 rfl ?_
      obtain ⟨c11, hw⟩ := wp_ck hw
      obtain ⟨c12, hw⟩ := wp_ck hw
      refine G_iaload dX11_blur_92 c11 c12 ?_
      refine G_callV (As := [.int l1, .int l2, .int (hI h a10 (ix l4))]) (s_X11_areMet hs l0 l1 l2 (hI h a10 (ix l4)) h _ (wp_cl hw)) ca_X11_areMet w_2010 w_118 (ci := 10) rfl (by decide) w_2008 c1 (Nat.le_of_ble_eq_true rfl) (Nat.le_of_ble_eq_true rfl) rfl (Nat.le_of_ble_eq_true rfl) (Nat.le_of_ble_eq_true rfl) (Nat.le_of_ble_eq_true rfl) dX11_blur_93 rfl (fun v h14 hq => ?_)
      obtain ⟨r13, rfl, hw⟩ := hq
      refine G.cse (cs' := (0, 0)) rfl ?_
      show GZ _ _ _ _ _ _ _ 96 _ (.int r13 :: []) _ _
      refine G.less [some (.ref l0), some (.int l1), some (.int l2), some (.int l3), some (.int l4), none] ⟨rfl, ⟨rfl, ⟨rfl, ⟨rfl, ⟨rfl, trivial⟩⟩⟩⟩⟩ ?_
      exact f_X11_blur_96_ok hs hK_33 _ _ _ _ _ _ h14 Q hw
    · have hw := hw.1 c9
      refine G_aload_n dX11_blur_55 rfl ?_
      refine G_iload_n dX11_blur_56 rfl ?_
      refine G_iload_n dX11_blur_57 rfl ?_
      refine G_iconst (v := (0 : Int32)) dX11_blur_58 (by decide) ?_
      refine G_callV (As := [.int l1, .int l2, .int (0 : Int32)]) (s_X11_areMet hs l0 l1 l2 (0 : Int32) h _ (wp_cl hw)) ca_X11_areMet w_2010 w_118 (ci := 10) rfl (by decide) w_2008 c1 (Nat.le_of_ble_eq_true rfl) (Nat.le_of_ble_eq_true rfl) rfl (Nat.le_of_ble_eq_true rfl) (Nat.le_of_ble_eq_true rfl) (Nat.le_of_ble_eq_true rfl) dX11_blur_59 rfl (fun v h16 hq => ?_)
      obtain ⟨r15, rfl, hw⟩ := hq
      refine G.cse (cs' := (0, 0)) rfl ?_
      show GZ _ _ _ _ _ _ _ 62 _ (.int r15 :: []) _ _
      have hw := wp_if hw
      refine G_if_eq (tgt := 79) dX11_blur_62 rfl (fun c17 => ?_) (fun c17 => ?_)
      · have hw := hw.1 c17
        refine G.less [some (.ref l0), some (.int l1), some (.int l2), some (.int l3), some (.int l4), none] ⟨rfl, ⟨rfl, ⟨rfl, ⟨rfl, ⟨rfl, trivial⟩⟩⟩⟩⟩ ?_
        exact f_X11_blur_79_ok hs hK_33 _ _ _ _ _ h16 Q hw
      · have hw := hw.2 c17
        refine G_aload_n dX11_blur_65 rfl ?_
        refine G_iload_n dX11_blur_66 rfl ?_
        refine G_iload_n dX11_blur_67 rfl ?_
        refine G_iconst (v := (1 : Int32)) dX11_blur_68 (by decide) ?_
        obtain ⟨c20, hw⟩ := wp_ck hw
        refine G_callV (As := [.int l1, .int l2, .int (1 : Int32)]) (s_X11_areMet hs l0 l1 l2 (1 : Int32) h16 _ (wp_cl hw)) ca_X11_areMet w_2010 w_118 (ci := 10) rfl (by decide) w_2008 c20 (Nat.le_of_ble_eq_true rfl) (Nat.le_of_ble_eq_true rfl) rfl (Nat.le_of_ble_eq_true rfl) (Nat.le_of_ble_eq_true rfl) (Nat.le_of_ble_eq_true rfl) dX11_blur_69 rfl (fun v h19 hq => ?_)
        obtain ⟨r18, rfl, hw⟩ := hq
        refine G.cse (cs' := (0, 0)) rfl ?_
        show GZ _ _ _ _ _ _ _ 72 _ (.int r18 :: []) _ _
        have hw := wp_if hw
        refine G_if_eq (tgt := 79) dX11_blur_72 rfl (fun c21 => ?_) (fun c21 => ?_)
        · have hw := hw.1 c21
          refine G.less [some (.ref l0), some (.int l1), some (.int l2), some (.int l3), some (.int l4), none] ⟨rfl, ⟨rfl, ⟨rfl, ⟨rfl, ⟨rfl, trivial⟩⟩⟩⟩⟩ ?_
          exact f_X11_blur_79_ok hs hK_33 _ _ _ _ _ h19 Q hw
        · have hw := hw.2 c21
          refine G_iconst (v := (1 : Int32)) dX11_blur_75 (by decide) ?_
          refine G_goto (tgt := 96) dX11_blur_76 rfl ?_
          refine G.less [some (.ref l0), some (.int l1), some (.int l2), some (.int l3), some (.int l4), none] ⟨rfl, ⟨rfl, ⟨rfl, ⟨rfl, ⟨rfl, trivial⟩⟩⟩⟩⟩ ?_
          exact f_X11_blur_96_ok hs hK_33 _ _ _ _ _ _ h19 Q hw
theorem f_X11_blur_33_ok {Γ : GX} (hs : SF Γ) {N : Nat} : ∀ (n : Nat) (l0 : Nat) (l1 : Int32) (l2 : Int32) (l3 : Int32) (l4 : Int32) (h : PH) (Q : Int32 → PH → Prop), wp (f_X11_blur_33 N n l0 l1 l2 l3 l4 h) Q → G Γ yX11_blur cX11_blur 6 (some .int) (3, 0, 0) 33 [some (.ref l0), some (.int l1), some (.int l2), some (.int l3), some (.int l4), none] [] h (0, 0) (q_i Q)
  | 0, _, _, _, _, _, _, Q, hw => (wp_no hw).elim
  | n + 1, l0, l1, l2, l3, l4, h, Q, hw => f_X11_blur_33_bok (N := N) hs (f_X11_blur_33_ok (N := N) hs n) l0 l1 l2 l3 l4 h Q hw
set_option maxHeartbeats 4000000 in
set_option maxRecDepth 100000 in
theorem s_X11_blur {Γ : GX} (hs : SF Γ) {N : Nat} (l0 : Nat) (l1 : Int32) (l2 : Int32) (h : PH) (Q : Int32 → PH → Prop) (hw : wp (f_X11_blur N l0 l1 l2 h) Q) : Spec Γ yX11_blur cX11_blur 6 (some .int) (3, 0, 0) [.ref l0, .int l1, .int l2] h (q_i Q) := by
  refine Spec.of (by decide) (Nat.le_of_ble_eq_true rfl) [some (.ref l0), some (.int l1), some (.int l2), none, none, none] rfl ?_
  unfold f_X11_blur at hw
  refine G_aload_n dX11_blur_0 rfl ?_
  refine G_iconst (v := (0 : Int32)) dX11_blur_1 (by decide) ?_
  obtain ⟨c1, hw⟩ := wp_ck hw
  refine G_putI fl_X11_thrown w_1393 dX11_blur_2 c1 ?_
  refine G.nmh fun h2 eh2 => ?_
  have hw := wp_bd hw h2 eh2
  refine G_aload_n dX11_blur_5 rfl ?_
  refine G_iload_n dX11_blur_6 rfl ?_
  obtain ⟨c5, hw⟩ := wp_ck hw
  refine G_callV (As := [.int l1]) (s_X11_isTold hs l0 l1 h2 _ (wp_cl hw)) ca_X11_isTold w_1957 w_110 (ci := 10) rfl (by decide) w_1955 c5 (Nat.le_of_ble_eq_true rfl) (Nat.le_of_ble_eq_true rfl) rfl (Nat.le_of_ble_eq_true rfl) (Nat.le_of_ble_eq_true rfl) (Nat.le_of_ble_eq_true rfl) dX11_blur_7 rfl (fun v h4 hq => ?_)
  obtain ⟨r3, rfl, hw⟩ := hq
  refine G.cse (cs' := (0, 0)) rfl ?_
  show GZ _ _ _ _ _ _ _ 10 _ (.int r3 :: []) _ _
  have hw := wp_if hw
  refine G_if_eq (tgt := 26) dX11_blur_10 rfl (fun c6 => ?_) (fun c6 => ?_)
  · have hw := hw.1 c6
    refine G_iconst (v := (-1 : Int32)) dX11_blur_26 (by decide) ?_
    exact G_ireturn rfl dX11_blur_27 ⟨_, rfl, wp_ret hw⟩
  · have hw := hw.2 c6
    refine G_aload_n dX11_blur_13 rfl ?_
    refine G_iload_n dX11_blur_14 rfl ?_
    obtain ⟨c9, hw⟩ := wp_ck hw
    refine G_callV (As := [.int l2]) (s_X11_isTold hs l0 l2 h4 _ (wp_cl hw)) ca_X11_isTold w_1957 w_110 (ci := 10) rfl (by decide) w_1955 c9 (Nat.le_of_ble_eq_true rfl) (Nat.le_of_ble_eq_true rfl) rfl (Nat.le_of_ble_eq_true rfl) (Nat.le_of_ble_eq_true rfl) (Nat.le_of_ble_eq_true rfl) dX11_blur_15 rfl (fun v h8 hq => ?_)
    obtain ⟨r7, rfl, hw⟩ := hq
    refine G.cse (cs' := (0, 0)) rfl ?_
    show GZ _ _ _ _ _ _ _ 18 _ (.int r7 :: []) _ _
    have hw := wp_if hw
    refine G_if_eq (tgt := 26) dX11_blur_18 rfl (fun c10 => ?_) (fun c10 => ?_)
    · have hw := hw.1 c10
      refine G_iconst (v := (-1 : Int32)) dX11_blur_26 (by decide) ?_
      exact G_ireturn rfl dX11_blur_27 ⟨_, rfl, wp_ret hw⟩
    · have hw := hw.2 c10
      refine G_iload_n dX11_blur_21 rfl ?_
      refine G_iload_n dX11_blur_22 rfl ?_
      have hw := wp_if hw
      refine G_icmp_ne (tgt := 28) dX11_blur_23 rfl (fun c11 => ?_) (fun c11 => ?_)
      · have hw := hw.2 c11
        refine G_iconst (v := (0 : Int32)) dX11_blur_28 (by decide) ?_
        refine G_istore_n (lv' := [some (.ref l0), some (.int l1), some (.int l2), some (.int (0 : Int32)), none, none]) dX11_blur_29 (Nat.le_of_ble_eq_true rfl) rfl ?_
        refine G_iconst (v := (0 : Int32)) dX11_blur_30 (by decide) ?_
        refine G_istore (lv' := [some (.ref l0), some (.int l1), some (.int l2), some (.int (0 : Int32)), some (.int (0 : Int32)), none]) dX11_blur_31 (Nat.le_of_ble_eq_true rfl) rfl ?_
        refine G.less [some (.ref l0), some (.int l1), some (.int l2), some (.int (0 : Int32)), some (.int (0 : Int32)), none] ⟨rfl, ⟨rfl, ⟨rfl, ⟨rfl, ⟨rfl, trivial⟩⟩⟩⟩⟩ ?_
        exact f_X11_blur_33_ok hs N _ _ _ _ _ h8 Q hw
      · have hw := hw.1 c11
        refine G_iconst (v := (-1 : Int32)) dX11_blur_26 (by decide) ?_
        exact G_ireturn rfl dX11_blur_27 ⟨_, rfl, wp_ret hw⟩
set_option maxHeartbeats 4000000 in
set_option maxRecDepth 100000 in
theorem f_X11_sootOf_64_ok {Γ : GX} (hs : SF Γ) {N : Nat} {K_7 : Nat → Int32 → Int32 → Int32 → Int32 → PH → Option (Int32 × PH)} (hK_7 : ∀ (l0 : Nat) (l1 : Int32) (l2 : Int32) (l3 : Int32) (l4 : Int32) (h : PH) (Q : Int32 → PH → Prop), wp (K_7 l0 l1 l2 l3 l4 h) Q → G Γ yX11_sootOf cX11_sootOf 5 (some .int) (6, 0, 0) 7 [some (.ref l0), some (.int l1), some (.int l2), some (.int l3), some (.int l4)] [] h (0, 0) (q_i Q)) (s0 : Int32) (s1 : Int32) (l0 : Nat) (l1 : Int32) (l2 : Int32) (l4 : Int32) (h : PH) (Q : Int32 → PH → Prop) (hw : wp (f_X11_sootOf_64 N K_7 s0 s1 l0 l1 l2 l4 h) Q) : G Γ yX11_sootOf cX11_sootOf 5 (some .int) (6, 0, 0) 64 [some (.ref l0), some (.int l1), some (.int l2), none, some (.int l4)] [.int s0, .int s1] h (0, 0) (q_i Q) := by
  unfold f_X11_sootOf_64 at hw
  refine G_iadd dX11_sootOf_64 ?_
  refine G.topi fun v1 ev1 => ?_
  have hw := wp_bd hw v1 ev1
  refine G_istore_n (lv' := [some (.ref l0), some (.int l1), some (.int l2), some (.int v1), some (.int l4)]) dX11_sootOf_65 (Nat.le_of_ble_eq_true rfl) rfl ?_
  obtain ⟨v2, ev2⟩ : ∃ z : Int32, z = l4 + (1 : Int32) := ⟨_, rfl⟩
  have hw := wp_bd hw v2 ev2
  refine G_iinc (v := v2) (lv' := [some (.ref l0), some (.int l1), some (.int l2), some (.int v1), some (.int v2)]) dX11_sootOf_66 rfl (by rw [ev2]; rfl) (Nat.le_of_ble_eq_true rfl) rfl ?_
  refine G_goto (tgt := 7) dX11_sootOf_69 rfl ?_
  refine G.less [some (.ref l0), some (.int l1), some (.int l2), some (.int v1), some (.int v2)] ⟨rfl, ⟨rfl, ⟨rfl, ⟨rfl, ⟨rfl, trivial⟩⟩⟩⟩⟩ ?_
  exact hK_7 _ _ _ _ _ h Q hw
set_option maxHeartbeats 4000000 in
set_option maxRecDepth 100000 in
theorem f_X11_sootOf_40_ok {Γ : GX} (hs : SF Γ) {N : Nat} {K_7 : Nat → Int32 → Int32 → Int32 → Int32 → PH → Option (Int32 × PH)} (hK_7 : ∀ (l0 : Nat) (l1 : Int32) (l2 : Int32) (l3 : Int32) (l4 : Int32) (h : PH) (Q : Int32 → PH → Prop), wp (K_7 l0 l1 l2 l3 l4 h) Q → G Γ yX11_sootOf cX11_sootOf 5 (some .int) (6, 0, 0) 7 [some (.ref l0), some (.int l1), some (.int l2), some (.int l3), some (.int l4)] [] h (0, 0) (q_i Q)) (s0 : Int32) (s1 : Int32) (l0 : Nat) (l1 : Int32) (l3 : Int32) (l4 : Int32) (h : PH) (Q : Int32 → PH → Prop) (hw : wp (f_X11_sootOf_40 N K_7 s0 s1 l0 l1 l3 l4 h) Q) : G Γ yX11_sootOf cX11_sootOf 5 (some .int) (6, 0, 0) 40 [some (.ref l0), some (.int l1), none, some (.int l3), some (.int l4)] [.int s0, .int s1] h (0, 0) (q_i Q) := by
  unfold f_X11_sootOf_40 at hw
  refine G_iadd dX11_sootOf_40 ?_
  refine G.topi fun v1 ev1 => ?_
  have hw := wp_bd hw v1 ev1
  refine G_istore_n (lv' := [some (.ref l0), some (.int l1), some (.int v1), some (.int l3), some (.int l4)]) dX11_sootOf_41 (Nat.le_of_ble_eq_true rfl) rfl ?_
  refine G_iload_n dX11_sootOf_42 rfl ?_
  refine G_iload_n dX11_sootOf_43 rfl ?_
  refine G_iload dX11_sootOf_44 rfl ?_
  refine G_ishr dX11_sootOf_46 ?_
  refine G_iconst (v := (1 : Int32)) dX11_sootOf_47 (by decide) ?_
  refine G_iand dX11_sootOf_48 ?_
  refine G_iconst (v := (1 : Int32)) dX11_sootOf_49 (by decide) ?_
  have hw := wp_if hw
  refine G_icmp_ne (tgt := 63) dX11_sootOf_50 rfl (fun c2 => ?_) (fun c2 => ?_)
  · have hw := hw.2 c2
    refine G_iconst (v := (0 : Int32)) dX11_sootOf_63 (by decide) ?_
    refine G.less [some (.ref l0), some (.int l1), some (.int v1), none, some (.int l4)] ⟨rfl, ⟨rfl, ⟨rfl, ⟨rfl, trivial⟩⟩⟩⟩ ?_
    exact f_X11_sootOf_64_ok hs hK_7 _ _ _ _ _ _ h Q hw
  · have hw := hw.1 c2
    refine G_aload_n dX11_sootOf_53 rfl ?_
    refine G_iload dX11_sootOf_54 rfl ?_
    refine G_iconst (v := (1 : Int32)) dX11_sootOf_56 (by decide) ?_
    obtain ⟨c5, hw⟩ := wp_ck hw
    refine G_callV (As := [.int l4, .int (1 : Int32)]) (s_X11_fireGives hs l0 l4 (1 : Int32) h _ (wp_cl hw)) ca_X11_fireGives w_1802 w_80 (ci := 10) rfl (by decide) w_1800 c5 (Nat.le_of_ble_eq_true rfl) (Nat.le_of_ble_eq_true rfl) rfl (Nat.le_of_ble_eq_true rfl) (Nat.le_of_ble_eq_true rfl) (Nat.le_of_ble_eq_true rfl) dX11_sootOf_57 rfl (fun v h4 hq => ?_)
    obtain ⟨r3, rfl, hw⟩ := hq
    refine G.cse (cs' := (0, 0)) rfl ?_
    show GZ _ _ _ _ _ _ _ 60 _ (.int r3 :: [.int l3]) _ _
    refine G_goto (tgt := 64) dX11_sootOf_60 rfl ?_
    refine G.less [some (.ref l0), some (.int l1), some (.int v1), none, some (.int l4)] ⟨rfl, ⟨rfl, ⟨rfl, ⟨rfl, trivial⟩⟩⟩⟩ ?_
    exact f_X11_sootOf_64_ok hs hK_7 _ _ _ _ _ _ h4 Q hw
set_option maxHeartbeats 4000000 in
set_option maxRecDepth 100000 in
theorem f_X11_sootOf_7_bok {Γ : GX} (hs : SF Γ) {N : Nat} {K_7 : Nat → Int32 → Int32 → Int32 → Int32 → PH → Option (Int32 × PH)} (hK_7 : ∀ (l0 : Nat) (l1 : Int32) (l2 : Int32) (l3 : Int32) (l4 : Int32) (h : PH) (Q : Int32 → PH → Prop), wp (K_7 l0 l1 l2 l3 l4 h) Q → G Γ yX11_sootOf cX11_sootOf 5 (some .int) (6, 0, 0) 7 [some (.ref l0), some (.int l1), some (.int l2), some (.int l3), some (.int l4)] [] h (0, 0) (q_i Q)) (l0 : Nat) (l1 : Int32) (l2 : Int32) (l3 : Int32) (l4 : Int32) (h : PH) (Q : Int32 → PH → Prop) (hw : wp (f_X11_sootOf_7_b N K_7 l0 l1 l2 l3 l4 h) Q) : G Γ yX11_sootOf cX11_sootOf 5 (some .int) (6, 0, 0) 7 [some (.ref l0), some (.int l1), some (.int l2), some (.int l3), some (.int l4)] [] h (0, 0) (q_i Q) := by
  unfold f_X11_sootOf_7_b at hw
  refine G_iload dX11_sootOf_7 rfl ?_
  refine G_aload_n dX11_sootOf_9 rfl ?_
  obtain ⟨c1, hw⟩ := wp_ck hw
  refine G_getR fl_X11_valley w_1403 dX11_sootOf_10 c1 ?_
  obtain ⟨a2, ea2, hw⟩ := wp_rq hw
  refine G.sure ea2 ?_
  refine G_iconst (v := (2 : Int32)) dX11_sootOf_13 (by decide) ?_
  obtain ⟨c3, hw⟩ := wp_ck hw
  obtain ⟨c4, hw⟩ := wp_ck hw
  refine G_ialoadK (k := 2) dX11_sootOf_14 c3 (by decide) rfl c4 ?_
  have hw := wp_if hw
  refine G_icmp_ge (tgt := 72) dX11_sootOf_15 rfl (fun c5 => ?_) (fun c5 => ?_)
  · have hw := hw.1 c5
    refine G_aload_n dX11_sootOf_72 rfl ?_
    refine G_sipush (v := (999 : Int32)) dX11_sootOf_73 (by decide) ?_
    refine G_iload_n dX11_sootOf_76 rfl ?_
    refine G_mmin w_1835 w_642 w_139 w_643 dX11_sootOf_77 (Nat.le_of_ble_eq_true rfl) (Nat.le_of_ble_eq_true rfl) (Nat.le_of_ble_eq_true rfl) (Nat.le_of_ble_eq_true rfl) ?_
    refine G_sipush (v := (999 : Int32)) dX11_sootOf_80 (by decide) ?_
    refine G_iload_n dX11_sootOf_83 rfl ?_
    refine G_mmin w_1835 w_642 w_139 w_643 dX11_sootOf_84 (Nat.le_of_ble_eq_true rfl) (Nat.le_of_ble_eq_true rfl) (Nat.le_of_ble_eq_true rfl) (Nat.le_of_ble_eq_true rfl) ?_
    refine G_callV (As := [.int (if l2 < (999 : Int32) then l2 else (999 : Int32)), .int (if l3 < (999 : Int32) then l3 else (999 : Int32))]) (s_X11_sootBy hs l0 (if l2 < (999 : Int32) then l2 else (999 : Int32)) (if l3 < (999 : Int32) then l3 else (999 : Int32)) h _ (wp_cl hw)) ca_X11_sootBy w_1885 w_96 (ci := 10) rfl (by decide) w_1883 c1 (Nat.le_of_ble_eq_true rfl) (Nat.le_of_ble_eq_true rfl) rfl (Nat.le_of_ble_eq_true rfl) (Nat.le_of_ble_eq_true rfl) (Nat.le_of_ble_eq_true rfl) dX11_sootOf_87 rfl (fun v h7 hq => ?_)
    obtain ⟨r6, rfl, hw⟩ := hq
    refine G.cse (cs' := (0, 0)) rfl ?_
    show GZ _ _ _ _ _ _ _ 90 _ (.int r6 :: []) _ _
    exact G_ireturn rfl dX11_sootOf_90 ⟨_, rfl, wp_ret hw⟩
  · have hw := hw.2 c5
    refine G_iload_n dX11_sootOf_18 rfl ?_
    refine G_iload_n dX11_sootOf_19 rfl ?_
    refine G_iload dX11_sootOf_20 rfl ?_
    refine G_ishr dX11_sootOf_22 ?_
    refine G_iconst (v := (1 : Int32)) dX11_sootOf_23 (by decide) ?_
    refine G_iand dX11_sootOf_24 ?_
    refine G_iconst (v := (1 : Int32)) dX11_sootOf_25 (by decide) ?_
    have hw := wp_if hw
    refine G_icmp_ne (tgt := 39) dX11_sootOf_26 rfl (fun c8 => ?_) (fun c8 => ?_)
    · have hw := hw.2 c8
      refine G_iconst (v := (0 : Int32)) dX11_sootOf_39 (by decide) ?_
      refine G.less [some (.ref l0), some (.int l1), none, some (.int l3), some (.int l4)] ⟨rfl, ⟨rfl, ⟨rfl, ⟨rfl, trivial⟩⟩⟩⟩ ?_
      exact f_X11_sootOf_40_ok hs hK_7 _ _ _ _ _ _ h Q hw
    · have hw := hw.1 c8
      refine G_aload_n dX11_sootOf_29 rfl ?_
      refine G_iload dX11_sootOf_30 rfl ?_
      refine G_iconst (v := (0 : Int32)) dX11_sootOf_32 (by decide) ?_
      refine G_callV (As := [.int l4, .int (0 : Int32)]) (s_X11_fireGives hs l0 l4 (0 : Int32) h _ (wp_cl hw)) ca_X11_fireGives w_1802 w_80 (ci := 10) rfl (by decide) w_1800 c1 (Nat.le_of_ble_eq_true rfl) (Nat.le_of_ble_eq_true rfl) rfl (Nat.le_of_ble_eq_true rfl) (Nat.le_of_ble_eq_true rfl) (Nat.le_of_ble_eq_true rfl) dX11_sootOf_33 rfl (fun v h10 hq => ?_)
      obtain ⟨r9, rfl, hw⟩ := hq
      refine G.cse (cs' := (0, 0)) rfl ?_
      show GZ _ _ _ _ _ _ _ 36 _ (.int r9 :: [.int l2]) _ _
      refine G_goto (tgt := 40) dX11_sootOf_36 rfl ?_
      refine G.less [some (.ref l0), some (.int l1), none, some (.int l3), some (.int l4)] ⟨rfl, ⟨rfl, ⟨rfl, ⟨rfl, trivial⟩⟩⟩⟩ ?_
      exact f_X11_sootOf_40_ok hs hK_7 _ _ _ _ _ _ h10 Q hw
theorem f_X11_sootOf_7_ok {Γ : GX} (hs : SF Γ) {N : Nat} : ∀ (n : Nat) (l0 : Nat) (l1 : Int32) (l2 : Int32) (l3 : Int32) (l4 : Int32) (h : PH) (Q : Int32 → PH → Prop), wp (f_X11_sootOf_7 N n l0 l1 l2 l3 l4 h) Q → G Γ yX11_sootOf cX11_sootOf 5 (some .int) (6, 0, 0) 7 [some (.ref l0), some (.int l1), some (.int l2), some (.int l3), some (.int l4)] [] h (0, 0) (q_i Q)
  | 0, _, _, _, _, _, _, Q, hw => (wp_no hw).elim
  | n + 1, l0, l1, l2, l3, l4, h, Q, hw => f_X11_sootOf_7_bok (N := N) hs (f_X11_sootOf_7_ok (N := N) hs n) l0 l1 l2 l3 l4 h Q hw
set_option maxHeartbeats 4000000 in
set_option maxRecDepth 100000 in
theorem s_X11_sootOf {Γ : GX} (hs : SF Γ) {N : Nat} (l0 : Nat) (l1 : Int32) (h : PH) (Q : Int32 → PH → Prop) (hw : wp (f_X11_sootOf N l0 l1 h) Q) : Spec Γ yX11_sootOf cX11_sootOf 5 (some .int) (6, 0, 0) [.ref l0, .int l1] h (q_i Q) := by
  refine Spec.of (by decide) (Nat.le_of_ble_eq_true rfl) [some (.ref l0), some (.int l1), none, none, none] rfl ?_
  unfold f_X11_sootOf at hw
  refine G_iconst (v := (0 : Int32)) dX11_sootOf_0 (by decide) ?_
  refine G_istore_n (lv' := [some (.ref l0), some (.int l1), some (.int (0 : Int32)), none, none]) dX11_sootOf_1 (Nat.le_of_ble_eq_true rfl) rfl ?_
  refine G_iconst (v := (0 : Int32)) dX11_sootOf_2 (by decide) ?_
  refine G_istore_n (lv' := [some (.ref l0), some (.int l1), some (.int (0 : Int32)), some (.int (0 : Int32)), none]) dX11_sootOf_3 (Nat.le_of_ble_eq_true rfl) rfl ?_
  refine G_iconst (v := (0 : Int32)) dX11_sootOf_4 (by decide) ?_
  refine G_istore (lv' := [some (.ref l0), some (.int l1), some (.int (0 : Int32)), some (.int (0 : Int32)), some (.int (0 : Int32))]) dX11_sootOf_5 (Nat.le_of_ble_eq_true rfl) rfl ?_
  refine G.less [some (.ref l0), some (.int l1), some (.int (0 : Int32)), some (.int (0 : Int32)), some (.int (0 : Int32))] ⟨rfl, ⟨rfl, ⟨rfl, ⟨rfl, ⟨rfl, trivial⟩⟩⟩⟩⟩ ?_
  exact f_X11_sootOf_7_ok hs N _ _ _ _ _ h Q hw
set_option maxHeartbeats 4000000 in
set_option maxRecDepth 100000 in
theorem f_X11_orders_4_bok {Γ : GX} (hs : SF Γ) {N : Nat} {K_4 : Int32 → Int32 → Int32 → PH → Option (Int32 × PH)} (hK_4 : ∀ (l0 : Int32) (l1 : Int32) (l2 : Int32) (h : PH) (Q : Int32 → PH → Prop), wp (K_4 l0 l1 l2 h) Q → G Γ yX11_orders cX11_orders 3 (some .int) (1, 0, 0) 4 [some (.int l0), some (.int l1), some (.int l2)] [] h (0, 0) (q_i Q)) (l0 : Int32) (l1 : Int32) (l2 : Int32) (h : PH) (Q : Int32 → PH → Prop) (hw : wp (f_X11_orders_4_b N K_4 l0 l1 l2 h) Q) : G Γ yX11_orders cX11_orders 3 (some .int) (1, 0, 0) 4 [some (.int l0), some (.int l1), some (.int l2)] [] h (0, 0) (q_i Q) := by
  unfold f_X11_orders_4_b at hw
  refine G_iload_n dX11_orders_4 rfl ?_
  refine G_iload_n dX11_orders_5 rfl ?_
  have hw := wp_if hw
  refine G_icmp_gt (tgt := 19) dX11_orders_6 rfl (fun c1 => ?_) (fun c1 => ?_)
  · have hw := hw.1 c1
    refine G_iload_n dX11_orders_19 rfl ?_
    exact G_ireturn rfl dX11_orders_20 ⟨_, rfl, wp_ret hw⟩
  · have hw := hw.2 c1
    refine G_iload_n dX11_orders_9 rfl ?_
    refine G_iload_n dX11_orders_10 rfl ?_
    refine G_imul dX11_orders_11 ?_
    refine G.topi fun v2 ev2 => ?_
    have hw := wp_bd hw v2 ev2
    refine G_istore_n (lv' := [some (.int l0), some (.int v2), some (.int l2)]) dX11_orders_12 (Nat.le_of_ble_eq_true rfl) rfl ?_
    obtain ⟨v3, ev3⟩ : ∃ z : Int32, z = l2 + (1 : Int32) := ⟨_, rfl⟩
    have hw := wp_bd hw v3 ev3
    refine G_iinc (v := v3) (lv' := [some (.int l0), some (.int v2), some (.int v3)]) dX11_orders_13 rfl (by rw [ev3]; rfl) (Nat.le_of_ble_eq_true rfl) rfl ?_
    refine G_goto (tgt := 4) dX11_orders_16 rfl ?_
    refine G.less [some (.int l0), some (.int v2), some (.int v3)] ⟨rfl, ⟨rfl, ⟨rfl, trivial⟩⟩⟩ ?_
    exact hK_4 _ _ _ h Q hw
theorem f_X11_orders_4_ok {Γ : GX} (hs : SF Γ) {N : Nat} : ∀ (n : Nat) (l0 : Int32) (l1 : Int32) (l2 : Int32) (h : PH) (Q : Int32 → PH → Prop), wp (f_X11_orders_4 N n l0 l1 l2 h) Q → G Γ yX11_orders cX11_orders 3 (some .int) (1, 0, 0) 4 [some (.int l0), some (.int l1), some (.int l2)] [] h (0, 0) (q_i Q)
  | 0, _, _, _, _, Q, hw => (wp_no hw).elim
  | n + 1, l0, l1, l2, h, Q, hw => f_X11_orders_4_bok (N := N) hs (f_X11_orders_4_ok (N := N) hs n) l0 l1 l2 h Q hw
set_option maxHeartbeats 4000000 in
set_option maxRecDepth 100000 in
theorem s_X11_orders {Γ : GX} (hs : SF Γ) {N : Nat} (l0 : Int32) (h : PH) (Q : Int32 → PH → Prop) (hw : wp (f_X11_orders N l0 h) Q) : Spec Γ yX11_orders cX11_orders 3 (some .int) (1, 0, 0) [.int l0] h (q_i Q) := by
  refine Spec.of (by decide) (Nat.le_of_ble_eq_true rfl) [some (.int l0), none, none] rfl ?_
  unfold f_X11_orders at hw
  refine G_iconst (v := (1 : Int32)) dX11_orders_0 (by decide) ?_
  refine G_istore_n (lv' := [some (.int l0), some (.int (1 : Int32)), none]) dX11_orders_1 (Nat.le_of_ble_eq_true rfl) rfl ?_
  refine G_iconst (v := (2 : Int32)) dX11_orders_2 (by decide) ?_
  refine G_istore_n (lv' := [some (.int l0), some (.int (1 : Int32)), some (.int (2 : Int32))]) dX11_orders_3 (Nat.le_of_ble_eq_true rfl) rfl ?_
  refine G.less [some (.int l0), some (.int (1 : Int32)), some (.int (2 : Int32))] ⟨rfl, ⟨rfl, ⟨rfl, trivial⟩⟩⟩ ?_
  exact f_X11_orders_4_ok hs N _ _ _ h Q hw
set_option maxHeartbeats 4000000 in
set_option maxRecDepth 100000 in
theorem s_X11_bits {Γ : GX} (hs : SF Γ) {N : Nat} (l0 : Int32) (h : PH) (Q : Int32 → PH → Prop) (hw : wp (f_X11_bits N l0 h) Q) : Spec Γ yX11_bits cX11_bits 1 (some .int) (1, 0, 0) [.int l0] h (q_i Q) := by
  refine Spec.of (by decide) (Nat.le_of_ble_eq_true rfl) [some (.int l0)] rfl ?_
  unfold f_X11_bits at hw
  refine G_iload_n dX11_bits_0 rfl ?_
  refine G_iconst (v := (1 : Int32)) dX11_bits_1 (by decide) ?_
  refine G_iand dX11_bits_2 ?_
  refine G_iload_n dX11_bits_3 rfl ?_
  refine G_iconst (v := (1 : Int32)) dX11_bits_4 (by decide) ?_
  refine G_ishr dX11_bits_5 ?_
  refine G_iconst (v := (1 : Int32)) dX11_bits_6 (by decide) ?_
  refine G_iand dX11_bits_7 ?_
  refine G_iadd dX11_bits_8 ?_
  refine G_iload_n dX11_bits_9 rfl ?_
  refine G_iconst (v := (2 : Int32)) dX11_bits_10 (by decide) ?_
  refine G_ishr dX11_bits_11 ?_
  refine G_iconst (v := (1 : Int32)) dX11_bits_12 (by decide) ?_
  refine G_iand dX11_bits_13 ?_
  refine G_iadd dX11_bits_14 ?_
  refine G_iload_n dX11_bits_15 rfl ?_
  refine G_iconst (v := (3 : Int32)) dX11_bits_16 (by decide) ?_
  refine G_ishr dX11_bits_17 ?_
  refine G_iconst (v := (1 : Int32)) dX11_bits_18 (by decide) ?_
  refine G_iand dX11_bits_19 ?_
  refine G_iadd dX11_bits_20 ?_
  exact G_ireturn rfl dX11_bits_21 ⟨_, rfl, wp_ret hw⟩
set_option maxHeartbeats 4000000 in
set_option maxRecDepth 100000 in
theorem f_X11_share_116_ok {Γ : GX} (hs : SF Γ) {N : Nat} {K_37 : Nat → Int32 → Int32 → Int32 → Int64 → Int32 → PH → Option (Int32 × PH)} (hK_37 : ∀ (l0 : Nat) (l1 : Int32) (l2 : Int32) (l3 : Int32) (l4 : Int64) (l6 : Int32) (h : PH) (Q : Int32 → PH → Prop), wp (K_37 l0 l1 l2 l3 l4 l6 h) Q → G Γ yX11_share cX11_share 9 (some .int) (7, 0, 0) 37 [some (.ref l0), some (.int l1), some (.int l2), some (.int l3), some (.long l4), none, some (.int l6), none, none] [] h (0, 0) (q_i Q)) (l0 : Nat) (l1 : Int32) (l2 : Int32) (l3 : Int32) (l4 : Int64) (l6 : Int32) (h : PH) (Q : Int32 → PH → Prop) (hw : wp (f_X11_share_116 N K_37 l0 l1 l2 l3 l4 l6 h) Q) : G Γ yX11_share cX11_share 9 (some .int) (7, 0, 0) 116 [some (.ref l0), some (.int l1), some (.int l2), some (.int l3), some (.long l4), none, some (.int l6), none, none] [] h (0, 0) (q_i Q) := by
  unfold f_X11_share_116 at hw
  obtain ⟨v1, ev1⟩ : ∃ z : Int32, z = l6 + (1 : Int32) := ⟨_, rfl⟩
  have hw := wp_bd hw v1 ev1
  refine G_iinc (v := v1) (lv' := [some (.ref l0), some (.int l1), some (.int l2), some (.int l3), some (.long l4), none, some (.int v1), none, none]) dX11_share_116 rfl (by rw [ev1]; rfl) (Nat.le_of_ble_eq_true rfl) rfl ?_
  refine G_goto (tgt := 37) dX11_share_119 rfl ?_
  refine G.less [some (.ref l0), some (.int l1), some (.int l2), some (.int l3), some (.long l4), none, some (.int v1), none, none] ⟨rfl, ⟨rfl, ⟨rfl, ⟨rfl, ⟨rfl, ⟨rfl, trivial⟩⟩⟩⟩⟩⟩ ?_
  exact hK_37 _ _ _ _ _ _ h Q hw
set_option maxHeartbeats 4000000 in
set_option maxRecDepth 100000 in
theorem f_X11_share_37_bok {Γ : GX} (hs : SF Γ) {N : Nat} {K_37 : Nat → Int32 → Int32 → Int32 → Int64 → Int32 → PH → Option (Int32 × PH)} (hK_37 : ∀ (l0 : Nat) (l1 : Int32) (l2 : Int32) (l3 : Int32) (l4 : Int64) (l6 : Int32) (h : PH) (Q : Int32 → PH → Prop), wp (K_37 l0 l1 l2 l3 l4 l6 h) Q → G Γ yX11_share cX11_share 9 (some .int) (7, 0, 0) 37 [some (.ref l0), some (.int l1), some (.int l2), some (.int l3), some (.long l4), none, some (.int l6), none, none] [] h (0, 0) (q_i Q)) (l0 : Nat) (l1 : Int32) (l2 : Int32) (l3 : Int32) (l4 : Int64) (l6 : Int32) (h : PH) (Q : Int32 → PH → Prop) (hw : wp (f_X11_share_37_b N K_37 l0 l1 l2 l3 l4 l6 h) Q) : G Γ yX11_share cX11_share 9 (some .int) (7, 0, 0) 37 [some (.ref l0), some (.int l1), some (.int l2), some (.int l3), some (.long l4), none, some (.int l6), none, none] [] h (0, 0) (q_i Q) := by
  unfold f_X11_share_37_b at hw
  refine G_iload dX11_share_37 rfl ?_
  refine G_iload_n dX11_share_39 rfl ?_
  have hw := wp_if hw
  refine G_icmp_gt (tgt := 122) dX11_share_40 rfl (fun c1 => ?_) (fun c1 => ?_)
  · have hw := hw.1 c1
    refine G_lload dX11_share_122 rfl ?_
    refine G_ldc2 (v := (1000 : Int64)) dX11_share_124 w_2026 ?_
    refine G_lmul dX11_share_127 ?_
    refine G_iload_n dX11_share_128 rfl ?_
    refine G_callS (As := [.int l3]) (s_X11_orders hs l3 h _ (wp_cl hw)) ca_X11_orders w_2024 w_2023 (Nat.le_of_ble_eq_true rfl) (Nat.le_of_ble_eq_true rfl) rfl (Nat.le_of_ble_eq_true rfl) (Nat.le_of_ble_eq_true rfl) (Nat.le_of_ble_eq_true rfl) dX11_share_129 rfl (fun v h3 hq => ?_)
    obtain ⟨r2, rfl, hw⟩ := hq
    refine G.cse (cs' := (0, 0)) rfl ?_
    show GZ _ _ _ _ _ _ _ 132 _ (.int r2 :: [.long (l4 * (1000 : Int64))]) _ _
    refine G_i2l dX11_share_132 ?_
    obtain ⟨c4, hw⟩ := wp_ck hw
    refine G_ldiv dX11_share_133 c4 ?_
    refine G_l2i dX11_share_134 ?_
    exact G_ireturn rfl dX11_share_135 ⟨_, rfl, wp_ret hw⟩
  · have hw := hw.2 c1
    refine G_iload dX11_share_43 rfl ?_
    refine G_iload_n dX11_share_45 rfl ?_
    refine G_iconst (v := (-1 : Int32)) dX11_share_46 (by decide) ?_
    refine G_ixor dX11_share_47 ?_
    refine G_iand dX11_share_48 ?_
    have hw := wp_if hw
    refine G_if_ne (tgt := 116) dX11_share_49 rfl (fun c5 => ?_) (fun c5 => ?_)
    · have hw := hw.2 c5
      refine G.less [some (.ref l0), some (.int l1), some (.int l2), some (.int l3), some (.long l4), none, some (.int l6), none, none] ⟨rfl, ⟨rfl, ⟨rfl, ⟨rfl, ⟨rfl, ⟨rfl, trivial⟩⟩⟩⟩⟩⟩ ?_
      exact f_X11_share_116_ok hs hK_37 _ _ _ _ _ _ h Q hw
    · have hw := hw.1 c5
      refine G_iload dX11_share_52 rfl ?_
      refine G_iload_n dX11_share_54 rfl ?_
      refine G_ishr dX11_share_55 ?_
      refine G_iconst (v := (1 : Int32)) dX11_share_56 (by decide) ?_
      refine G_iand dX11_share_57 ?_
      refine G_iconst (v := (1 : Int32)) dX11_share_58 (by decide) ?_
      have hw := wp_if hw
      refine G_icmp_ne (tgt := 65) dX11_share_59 rfl (fun c6 => ?_) (fun c6 => ?_)
      · have hw := hw.2 c6
        refine G_aload_n dX11_share_65 rfl ?_
        refine G_iload dX11_share_66 rfl ?_
        refine G_iconst (v := (1 : Int32)) dX11_share_68 (by decide) ?_
        refine G_iload_n dX11_share_69 rfl ?_
        refine G_ishl dX11_share_70 ?_
        refine G_ior dX11_share_71 ?_
        obtain ⟨c9, hw⟩ := wp_ck hw
        refine G_callV (As := [.int (l6 ||| ((1 : Int32) <<< (l1 &&& 31)))]) (s_X11_sootOf hs l0 (l6 ||| ((1 : Int32) <<< (l1 &&& 31))) h _ (wp_cl hw)) ca_X11_sootOf w_2021 w_119 (ci := 10) rfl (by decide) w_2019 c9 (Nat.le_of_ble_eq_true rfl) (Nat.le_of_ble_eq_true rfl) rfl (Nat.le_of_ble_eq_true rfl) (Nat.le_of_ble_eq_true rfl) (Nat.le_of_ble_eq_true rfl) dX11_share_72 rfl (fun v h8 hq => ?_)
        obtain ⟨r7, rfl, hw⟩ := hq
        refine G.cse (cs' := (0, 0)) rfl ?_
        show GZ _ _ _ _ _ _ _ 75 _ (.int r7 :: []) _ _
        refine G_aload_n dX11_share_75 rfl ?_
        refine G_iload dX11_share_76 rfl ?_
        obtain ⟨c12, hw⟩ := wp_ck hw
        refine G_callV (As := [.int l6]) (s_X11_sootOf hs l0 l6 h8 _ (wp_cl hw)) ca_X11_sootOf w_2021 w_119 (ci := 10) rfl (by decide) w_2019 c12 (Nat.le_of_ble_eq_true rfl) (Nat.le_of_ble_eq_true rfl) rfl (Nat.le_of_ble_eq_true rfl) (Nat.le_of_ble_eq_true rfl) (Nat.le_of_ble_eq_true rfl) dX11_share_78 rfl (fun v h11 hq => ?_)
        obtain ⟨r10, rfl, hw⟩ := hq
        refine G.cse (cs' := (0, 0)) rfl ?_
        show GZ _ _ _ _ _ _ _ 81 _ (.int r10 :: [.int r7]) _ _
        refine G_isub dX11_share_81 ?_
        refine G_i2l dX11_share_82 ?_
        refine G.topl fun v13 ev13 => ?_
        have hw := wp_bd hw v13 ev13
        refine G_lstore (lv' := [some (.ref l0), some (.int l1), some (.int l2), some (.int l3), some (.long l4), none, some (.int l6), some (.long v13), none]) dX11_share_83 (Nat.le_of_ble_eq_true rfl) rfl ?_
        refine G_lload dX11_share_85 rfl ?_
        refine G_lload dX11_share_87 rfl ?_
        refine G_iload dX11_share_89 rfl ?_
        refine G_callS (As := [.int l6]) (s_X11_bits hs l6 h11 _ (wp_cl hw)) ca_X11_bits w_2017 w_2016 (Nat.le_of_ble_eq_true rfl) (Nat.le_of_ble_eq_true rfl) rfl (Nat.le_of_ble_eq_true rfl) (Nat.le_of_ble_eq_true rfl) (Nat.le_of_ble_eq_true rfl) dX11_share_91 rfl (fun v h15 hq => ?_)
        obtain ⟨r14, rfl, hw⟩ := hq
        refine G.cse (cs' := (0, 0)) rfl ?_
        show GZ _ _ _ _ _ _ _ 94 _ (.int r14 :: [.long v13, .long l4]) _ _
        refine G_callS (As := [.int r14]) (s_X11_orders hs r14 h15 _ (wp_cl hw)) ca_X11_orders w_2024 w_2023 (Nat.le_of_ble_eq_true rfl) (Nat.le_of_ble_eq_true rfl) rfl (Nat.le_of_ble_eq_true rfl) (Nat.le_of_ble_eq_true rfl) (Nat.le_of_ble_eq_true rfl) dX11_share_94 rfl (fun v h17 hq => ?_)
        obtain ⟨r16, rfl, hw⟩ := hq
        refine G.cse (cs' := (0, 0)) rfl ?_
        show GZ _ _ _ _ _ _ _ 97 _ (.int r16 :: [.long v13, .long l4]) _ _
        refine G_i2l dX11_share_97 ?_
        refine G_lmul dX11_share_98 ?_
        refine G_iload_n dX11_share_99 rfl ?_
        refine G_iconst (v := (1 : Int32)) dX11_share_100 (by decide) ?_
        refine G_isub dX11_share_101 ?_
        refine G_iload dX11_share_102 rfl ?_
        refine G_callS (As := [.int l6]) (s_X11_bits hs l6 h17 _ (wp_cl hw)) ca_X11_bits w_2017 w_2016 (Nat.le_of_ble_eq_true rfl) (Nat.le_of_ble_eq_true rfl) rfl (Nat.le_of_ble_eq_true rfl) (Nat.le_of_ble_eq_true rfl) (Nat.le_of_ble_eq_true rfl) dX11_share_104 rfl (fun v h19 hq => ?_)
        obtain ⟨r18, rfl, hw⟩ := hq
        refine G.cse (cs' := (0, 0)) rfl ?_
        show GZ _ _ _ _ _ _ _ 107 _ (.int r18 :: [.int (l3 - (1 : Int32)), .long (v13 * r16.toInt64), .long l4]) _ _
        refine G_isub dX11_share_107 ?_
        refine G_callS (As := [.int ((l3 - (1 : Int32)) - r18)]) (s_X11_orders hs ((l3 - (1 : Int32)) - r18) h19 _ (wp_cl hw)) ca_X11_orders w_2024 w_2023 (Nat.le_of_ble_eq_true rfl) (Nat.le_of_ble_eq_true rfl) rfl (Nat.le_of_ble_eq_true rfl) (Nat.le_of_ble_eq_true rfl) (Nat.le_of_ble_eq_true rfl) dX11_share_108 rfl (fun v h21 hq => ?_)
        obtain ⟨r20, rfl, hw⟩ := hq
        refine G.cse (cs' := (0, 0)) rfl ?_
        show GZ _ _ _ _ _ _ _ 111 _ (.int r20 :: [.long (v13 * r16.toInt64), .long l4]) _ _
        refine G_i2l dX11_share_111 ?_
        refine G_lmul dX11_share_112 ?_
        refine G_ladd dX11_share_113 ?_
        refine G.topl fun v22 ev22 => ?_
        have hw := wp_bd hw v22 ev22
        refine G_lstore (lv' := [some (.ref l0), some (.int l1), some (.int l2), some (.int l3), some (.long v22), none, some (.int l6), some (.long v13), none]) dX11_share_114 (Nat.le_of_ble_eq_true rfl) rfl ?_
        refine G.less [some (.ref l0), some (.int l1), some (.int l2), some (.int l3), some (.long v22), none, some (.int l6), none, none] ⟨rfl, ⟨rfl, ⟨rfl, ⟨rfl, ⟨rfl, ⟨rfl, trivial⟩⟩⟩⟩⟩⟩ ?_
        exact f_X11_share_116_ok hs hK_37 _ _ _ _ _ _ h21 Q hw
      · have hw := hw.1 c6
        refine G_goto (tgt := 116) dX11_share_62 rfl ?_
        refine G.less [some (.ref l0), some (.int l1), some (.int l2), some (.int l3), some (.long l4), none, some (.int l6), none, none] ⟨rfl, ⟨rfl, ⟨rfl, ⟨rfl, ⟨rfl, ⟨rfl, trivial⟩⟩⟩⟩⟩⟩ ?_
        exact f_X11_share_116_ok hs hK_37 _ _ _ _ _ _ h Q hw
theorem f_X11_share_37_ok {Γ : GX} (hs : SF Γ) {N : Nat} : ∀ (n : Nat) (l0 : Nat) (l1 : Int32) (l2 : Int32) (l3 : Int32) (l4 : Int64) (l6 : Int32) (h : PH) (Q : Int32 → PH → Prop), wp (f_X11_share_37 N n l0 l1 l2 l3 l4 l6 h) Q → G Γ yX11_share cX11_share 9 (some .int) (7, 0, 0) 37 [some (.ref l0), some (.int l1), some (.int l2), some (.int l3), some (.long l4), none, some (.int l6), none, none] [] h (0, 0) (q_i Q)
  | 0, _, _, _, _, _, _, _, Q, hw => (wp_no hw).elim
  | n + 1, l0, l1, l2, l3, l4, l6, h, Q, hw => f_X11_share_37_bok (N := N) hs (f_X11_share_37_ok (N := N) hs n) l0 l1 l2 l3 l4 l6 h Q hw
set_option maxHeartbeats 4000000 in
set_option maxRecDepth 100000 in
theorem s_X11_share {Γ : GX} (hs : SF Γ) {N : Nat} (l0 : Nat) (l1 : Int32) (h : PH) (Q : Int32 → PH → Prop) (hw : wp (f_X11_share N l0 l1 h) Q) : Spec Γ yX11_share cX11_share 9 (some .int) (7, 0, 0) [.ref l0, .int l1] h (q_i Q) := by
  refine Spec.of (by decide) (Nat.le_of_ble_eq_true rfl) [some (.ref l0), some (.int l1), none, none, none, none, none, none, none] rfl ?_
  unfold f_X11_share at hw
  refine G_aload_n dX11_share_0 rfl ?_
  refine G_iconst (v := (0 : Int32)) dX11_share_1 (by decide) ?_
  obtain ⟨c1, hw⟩ := wp_ck hw
  refine G_putI fl_X11_thrown w_1393 dX11_share_2 c1 ?_
  refine G.nmh fun h2 eh2 => ?_
  have hw := wp_bd hw h2 eh2
  refine G_aload_n dX11_share_5 rfl ?_
  refine G_iload_n dX11_share_6 rfl ?_
  obtain ⟨c5, hw⟩ := wp_ck hw
  refine G_callV (As := [.int l1]) (s_X11_isHouse hs l0 l1 h2 _ (wp_cl hw)) ca_X11_isHouse w_1786 w_77 (ci := 10) rfl (by decide) w_1784 c5 (Nat.le_of_ble_eq_true rfl) (Nat.le_of_ble_eq_true rfl) rfl (Nat.le_of_ble_eq_true rfl) (Nat.le_of_ble_eq_true rfl) (Nat.le_of_ble_eq_true rfl) dX11_share_7 rfl (fun v h4 hq => ?_)
  obtain ⟨r3, rfl, hw⟩ := hq
  refine G.cse (cs' := (0, 0)) rfl ?_
  show GZ _ _ _ _ _ _ _ 10 _ (.int r3 :: []) _ _
  have hw := wp_if hw
  refine G_if_ne (tgt := 15) dX11_share_10 rfl (fun c6 => ?_) (fun c6 => ?_)
  · have hw := hw.2 c6
    refine G_aload_n dX11_share_15 rfl ?_
    refine G_aload_n dX11_share_16 rfl ?_
    obtain ⟨c7, hw⟩ := wp_ck hw
    refine G_getR fl_X11_houseAt w_1408 dX11_share_17 c7 ?_
    obtain ⟨a8, ea8, hw⟩ := wp_rq hw
    refine G.sure ea8 ?_
    refine G_iload_n dX11_share_20 rfl ?_
    obtain ⟨c9, hw⟩ := wp_ck hw
    obtain ⟨c10, hw⟩ := wp_ck hw
    refine G_iaload dX11_share_21 c9 c10 ?_
    refine G_callV (As := [.int (hI h4 a8 (ix l1))]) (s_X11_housesOf hs l0 (hI h4 a8 (ix l1)) h4 _ (wp_cl hw)) ca_X11_housesOf w_1842 w_89 (ci := 10) rfl (by decide) w_1840 c7 (Nat.le_of_ble_eq_true rfl) (Nat.le_of_ble_eq_true rfl) rfl (Nat.le_of_ble_eq_true rfl) (Nat.le_of_ble_eq_true rfl) (Nat.le_of_ble_eq_true rfl) dX11_share_22 rfl (fun v h12 hq => ?_)
    obtain ⟨r11, rfl, hw⟩ := hq
    refine G.cse (cs' := (0, 0)) rfl ?_
    show GZ _ _ _ _ _ _ _ 25 _ (.int r11 :: []) _ _
    refine G_istore_n (lv' := [some (.ref l0), some (.int l1), some (.int r11), none, none, none, none, none, none]) dX11_share_25 (Nat.le_of_ble_eq_true rfl) rfl ?_
    refine G_iload_n dX11_share_26 rfl ?_
    refine G_callS (As := [.int r11]) (s_X11_bits hs r11 h12 _ (wp_cl hw)) ca_X11_bits w_2017 w_2016 (Nat.le_of_ble_eq_true rfl) (Nat.le_of_ble_eq_true rfl) rfl (Nat.le_of_ble_eq_true rfl) (Nat.le_of_ble_eq_true rfl) (Nat.le_of_ble_eq_true rfl) dX11_share_27 rfl (fun v h14 hq => ?_)
    obtain ⟨r13, rfl, hw⟩ := hq
    refine G.cse (cs' := (0, 0)) rfl ?_
    show GZ _ _ _ _ _ _ _ 30 _ (.int r13 :: []) _ _
    refine G_istore_n (lv' := [some (.ref l0), some (.int l1), some (.int r11), some (.int r13), none, none, none, none, none]) dX11_share_30 (Nat.le_of_ble_eq_true rfl) rfl ?_
    refine G_lconst (v := (0 : Int64)) dX11_share_31 (by decide) ?_
    refine G_lstore (lv' := [some (.ref l0), some (.int l1), some (.int r11), some (.int r13), some (.long (0 : Int64)), none, none, none, none]) dX11_share_32 (Nat.le_of_ble_eq_true rfl) rfl ?_
    refine G_iconst (v := (0 : Int32)) dX11_share_34 (by decide) ?_
    refine G_istore (lv' := [some (.ref l0), some (.int l1), some (.int r11), some (.int r13), some (.long (0 : Int64)), none, some (.int (0 : Int32)), none, none]) dX11_share_35 (Nat.le_of_ble_eq_true rfl) rfl ?_
    refine G.less [some (.ref l0), some (.int l1), some (.int r11), some (.int r13), some (.long (0 : Int64)), none, some (.int (0 : Int32)), none, none] ⟨rfl, ⟨rfl, ⟨rfl, ⟨rfl, ⟨rfl, ⟨rfl, trivial⟩⟩⟩⟩⟩⟩ ?_
    exact f_X11_share_37_ok hs N _ _ _ _ _ _ h14 Q hw
  · have hw := hw.1 c6
    refine G_iconst (v := (-1 : Int32)) dX11_share_13 (by decide) ?_
    exact G_ireturn rfl dX11_share_14 ⟨_, rfl, wp_ret hw⟩
set_option maxHeartbeats 4000000 in
set_option maxRecDepth 100000 in
theorem f_X11_given_110_ok {Γ : GX} (hs : SF Γ) {N : Nat} {K_43 : Nat → Int32 → Int32 → Int32 → Int32 → Int32 → Int32 → PH → Option (Int32 × PH)} (hK_43 : ∀ (l0 : Nat) (l1 : Int32) (l2 : Int32) (l3 : Int32) (l4 : Int32) (l5 : Int32) (l6 : Int32) (h : PH) (Q : Int32 → PH → Prop), wp (K_43 l0 l1 l2 l3 l4 l5 l6 h) Q → G Γ yX11_given cX11_given 7 (some .int) (2, 0, 0) 43 [some (.ref l0), some (.int l1), some (.int l2), some (.int l3), some (.int l4), some (.int l5), some (.int l6)] [] h (0, 0) (q_i Q)) (s0 : Int32) (s1 : Int32) (l0 : Nat) (l1 : Int32) (l2 : Int32) (l3 : Int32) (l4 : Int32) (l6 : Int32) (h : PH) (Q : Int32 → PH → Prop) (hw : wp (f_X11_given_110 N K_43 s0 s1 l0 l1 l2 l3 l4 l6 h) Q) : G Γ yX11_given cX11_given 7 (some .int) (2, 0, 0) 110 [some (.ref l0), some (.int l1), some (.int l2), some (.int l3), some (.int l4), none, some (.int l6)] [.int s0, .int s1] h (0, 0) (q_i Q) := by
  unfold f_X11_given_110 at hw
  refine G_iadd dX11_given_110 ?_
  refine G.topi fun v1 ev1 => ?_
  have hw := wp_bd hw v1 ev1
  refine G_istore (lv' := [some (.ref l0), some (.int l1), some (.int l2), some (.int l3), some (.int l4), some (.int v1), some (.int l6)]) dX11_given_111 (Nat.le_of_ble_eq_true rfl) rfl ?_
  obtain ⟨v2, ev2⟩ : ∃ z : Int32, z = l6 + (1 : Int32) := ⟨_, rfl⟩
  have hw := wp_bd hw v2 ev2
  refine G_iinc (v := v2) (lv' := [some (.ref l0), some (.int l1), some (.int l2), some (.int l3), some (.int l4), some (.int v1), some (.int v2)]) dX11_given_113 rfl (by rw [ev2]; rfl) (Nat.le_of_ble_eq_true rfl) rfl ?_
  refine G_goto (tgt := 43) dX11_given_116 rfl ?_
  refine G.less [some (.ref l0), some (.int l1), some (.int l2), some (.int l3), some (.int l4), some (.int v1), some (.int v2)] ⟨rfl, ⟨rfl, ⟨rfl, ⟨rfl, ⟨rfl, ⟨rfl, ⟨rfl, trivial⟩⟩⟩⟩⟩⟩⟩ ?_
  exact hK_43 _ _ _ _ _ _ _ h Q hw
set_option maxHeartbeats 4000000 in
set_option maxRecDepth 100000 in
theorem f_X11_given_109_ok {Γ : GX} (hs : SF Γ) {N : Nat} {K_43 : Nat → Int32 → Int32 → Int32 → Int32 → Int32 → Int32 → PH → Option (Int32 × PH)} (hK_43 : ∀ (l0 : Nat) (l1 : Int32) (l2 : Int32) (l3 : Int32) (l4 : Int32) (l5 : Int32) (l6 : Int32) (h : PH) (Q : Int32 → PH → Prop), wp (K_43 l0 l1 l2 l3 l4 l5 l6 h) Q → G Γ yX11_given cX11_given 7 (some .int) (2, 0, 0) 43 [some (.ref l0), some (.int l1), some (.int l2), some (.int l3), some (.int l4), some (.int l5), some (.int l6)] [] h (0, 0) (q_i Q)) (s0 : Int32) (l0 : Nat) (l1 : Int32) (l2 : Int32) (l3 : Int32) (l4 : Int32) (l6 : Int32) (h : PH) (Q : Int32 → PH → Prop) (hw : wp (f_X11_given_109 N K_43 s0 l0 l1 l2 l3 l4 l6 h) Q) : G Γ yX11_given cX11_given 7 (some .int) (2, 0, 0) 109 [some (.ref l0), some (.int l1), some (.int l2), some (.int l3), some (.int l4), none, some (.int l6)] [.int s0] h (0, 0) (q_i Q) := by
  unfold f_X11_given_109 at hw
  refine G_iconst (v := (0 : Int32)) dX11_given_109 (by decide) ?_
  refine G.less [some (.ref l0), some (.int l1), some (.int l2), some (.int l3), some (.int l4), none, some (.int l6)] ⟨rfl, ⟨rfl, ⟨rfl, ⟨rfl, ⟨rfl, ⟨rfl, trivial⟩⟩⟩⟩⟩⟩ ?_
  exact f_X11_given_110_ok hs hK_43 _ _ _ _ _ _ _ _ h Q hw
set_option maxHeartbeats 4000000 in
set_option maxRecDepth 100000 in
theorem f_X11_given_84_ok {Γ : GX} (hs : SF Γ) {N : Nat} {K_43 : Nat → Int32 → Int32 → Int32 → Int32 → Int32 → Int32 → PH → Option (Int32 × PH)} (hK_43 : ∀ (l0 : Nat) (l1 : Int32) (l2 : Int32) (l3 : Int32) (l4 : Int32) (l5 : Int32) (l6 : Int32) (h : PH) (Q : Int32 → PH → Prop), wp (K_43 l0 l1 l2 l3 l4 l5 l6 h) Q → G Γ yX11_given cX11_given 7 (some .int) (2, 0, 0) 43 [some (.ref l0), some (.int l1), some (.int l2), some (.int l3), some (.int l4), some (.int l5), some (.int l6)] [] h (0, 0) (q_i Q)) (s0 : Int32) (s1 : Int32) (l0 : Nat) (l1 : Int32) (l2 : Int32) (l3 : Int32) (l5 : Int32) (l6 : Int32) (h : PH) (Q : Int32 → PH → Prop) (hw : wp (f_X11_given_84 N K_43 s0 s1 l0 l1 l2 l3 l5 l6 h) Q) : G Γ yX11_given cX11_given 7 (some .int) (2, 0, 0) 84 [some (.ref l0), some (.int l1), some (.int l2), some (.int l3), none, some (.int l5), some (.int l6)] [.int s0, .int s1] h (0, 0) (q_i Q) := by
  unfold f_X11_given_84 at hw
  refine G_iadd dX11_given_84 ?_
  refine G.topi fun v1 ev1 => ?_
  have hw := wp_bd hw v1 ev1
  refine G_istore (lv' := [some (.ref l0), some (.int l1), some (.int l2), some (.int l3), some (.int v1), some (.int l5), some (.int l6)]) dX11_given_85 (Nat.le_of_ble_eq_true rfl) rfl ?_
  refine G_iload dX11_given_87 rfl ?_
  refine G_iload_n dX11_given_89 rfl ?_
  refine G_iload dX11_given_90 rfl ?_
  refine G_ishr dX11_given_92 ?_
  refine G_iconst (v := (1 : Int32)) dX11_given_93 (by decide) ?_
  refine G_iand dX11_given_94 ?_
  refine G_iconst (v := (1 : Int32)) dX11_given_95 (by decide) ?_
  have hw := wp_if hw
  refine G_icmp_ne (tgt := 109) dX11_given_96 rfl (fun c2 => ?_) (fun c2 => ?_)
  · have hw := hw.2 c2
    refine G.less [some (.ref l0), some (.int l1), some (.int l2), some (.int l3), some (.int v1), none, some (.int l6)] ⟨rfl, ⟨rfl, ⟨rfl, ⟨rfl, ⟨rfl, ⟨rfl, trivial⟩⟩⟩⟩⟩⟩ ?_
    exact f_X11_given_109_ok hs hK_43 _ _ _ _ _ _ _ h Q hw
  · have hw := hw.1 c2
    refine G_iload dX11_given_99 rfl ?_
    refine G_iload_n dX11_given_101 rfl ?_
    have hw := wp_if hw
    refine G_icmp_ge (tgt := 109) dX11_given_102 rfl (fun c3 => ?_) (fun c3 => ?_)
    · have hw := hw.1 c3
      refine G.less [some (.ref l0), some (.int l1), some (.int l2), some (.int l3), some (.int v1), none, some (.int l6)] ⟨rfl, ⟨rfl, ⟨rfl, ⟨rfl, ⟨rfl, ⟨rfl, trivial⟩⟩⟩⟩⟩⟩ ?_
      exact f_X11_given_109_ok hs hK_43 _ _ _ _ _ _ _ h Q hw
    · have hw := hw.2 c3
      refine G_iconst (v := (1 : Int32)) dX11_given_105 (by decide) ?_
      refine G_goto (tgt := 110) dX11_given_106 rfl ?_
      refine G.less [some (.ref l0), some (.int l1), some (.int l2), some (.int l3), some (.int v1), none, some (.int l6)] ⟨rfl, ⟨rfl, ⟨rfl, ⟨rfl, ⟨rfl, ⟨rfl, trivial⟩⟩⟩⟩⟩⟩ ?_
      exact f_X11_given_110_ok hs hK_43 _ _ _ _ _ _ _ _ h Q hw
set_option maxHeartbeats 4000000 in
set_option maxRecDepth 100000 in
theorem f_X11_given_143_ok {Γ : GX} (hs : SF Γ) {N : Nat} (s0 : Int32) (s1 : Int32) (h : PH) (Q : Int32 → PH → Prop) (hw : wp (f_X11_given_143 N s0 s1 h) Q) : G Γ yX11_given cX11_given 7 (some .int) (2, 0, 0) 143 [none, none, none, none, none, none, none] [.int s0, .int s1] h (0, 0) (q_i Q) := by
  unfold f_X11_given_143 at hw
  refine G_iadd dX11_given_143 ?_
  exact G_ireturn rfl dX11_given_144 ⟨_, rfl, wp_ret hw⟩
set_option maxHeartbeats 4000000 in
set_option maxRecDepth 100000 in
theorem f_X11_given_43_bok {Γ : GX} (hs : SF Γ) {N : Nat} {K_43 : Nat → Int32 → Int32 → Int32 → Int32 → Int32 → Int32 → PH → Option (Int32 × PH)} (hK_43 : ∀ (l0 : Nat) (l1 : Int32) (l2 : Int32) (l3 : Int32) (l4 : Int32) (l5 : Int32) (l6 : Int32) (h : PH) (Q : Int32 → PH → Prop), wp (K_43 l0 l1 l2 l3 l4 l5 l6 h) Q → G Γ yX11_given cX11_given 7 (some .int) (2, 0, 0) 43 [some (.ref l0), some (.int l1), some (.int l2), some (.int l3), some (.int l4), some (.int l5), some (.int l6)] [] h (0, 0) (q_i Q)) (l0 : Nat) (l1 : Int32) (l2 : Int32) (l3 : Int32) (l4 : Int32) (l5 : Int32) (l6 : Int32) (h : PH) (Q : Int32 → PH → Prop) (hw : wp (f_X11_given_43_b N K_43 l0 l1 l2 l3 l4 l5 l6 h) Q) : G Γ yX11_given cX11_given 7 (some .int) (2, 0, 0) 43 [some (.ref l0), some (.int l1), some (.int l2), some (.int l3), some (.int l4), some (.int l5), some (.int l6)] [] h (0, 0) (q_i Q) := by
  unfold f_X11_given_43_b at hw
  refine G_iload dX11_given_43 rfl ?_
  refine G_aload_n dX11_given_45 rfl ?_
  obtain ⟨c1, hw⟩ := wp_ck hw
  refine G_getR fl_X11_valley w_1403 dX11_given_46 c1 ?_
  obtain ⟨a2, ea2, hw⟩ := wp_rq hw
  refine G.sure ea2 ?_
  refine G_iconst (v := (2 : Int32)) dX11_given_49 (by decide) ?_
  obtain ⟨c3, hw⟩ := wp_ck hw
  obtain ⟨c4, hw⟩ := wp_ck hw
  refine G_ialoadK (k := 2) dX11_given_50 c3 (by decide) rfl c4 ?_
  have hw := wp_if hw
  refine G_icmp_ge (tgt := 119) dX11_given_51 rfl (fun c5 => ?_) (fun c5 => ?_)
  · have hw := hw.1 c5
    refine G_iload dX11_given_119 rfl ?_
    refine G_iload_n dX11_given_121 rfl ?_
    refine G_callS (As := [.int l3]) (s_X11_bits hs l3 h _ (wp_cl hw)) ca_X11_bits w_2017 w_2016 (Nat.le_of_ble_eq_true rfl) (Nat.le_of_ble_eq_true rfl) rfl (Nat.le_of_ble_eq_true rfl) (Nat.le_of_ble_eq_true rfl) (Nat.le_of_ble_eq_true rfl) dX11_given_122 rfl (fun v h7 hq => ?_)
    obtain ⟨r6, rfl, hw⟩ := hq
    refine G.cse (cs' := (0, 0)) rfl ?_
    show GZ _ _ _ _ _ _ _ 125 _ (.int r6 :: [.int l4]) _ _
    obtain ⟨c8, hw⟩ := wp_ck hw
    refine G_idiv dX11_given_125 c8 ?_
    refine G_iload dX11_given_126 rfl ?_
    refine G_iload dX11_given_128 rfl ?_
    refine G_iload_n dX11_given_130 rfl ?_
    refine G_callS (As := [.int l3]) (s_X11_bits hs l3 h7 _ (wp_cl hw)) ca_X11_bits w_2017 w_2016 (Nat.le_of_ble_eq_true rfl) (Nat.le_of_ble_eq_true rfl) rfl (Nat.le_of_ble_eq_true rfl) (Nat.le_of_ble_eq_true rfl) (Nat.le_of_ble_eq_true rfl) dX11_given_131 rfl (fun v h10 hq => ?_)
    obtain ⟨r9, rfl, hw⟩ := hq
    refine G.cse (cs' := (0, 0)) rfl ?_
    show GZ _ _ _ _ _ _ _ 134 _ (.int r9 :: [.int l4, .int l5, .int (l4 / r6)]) _ _
    obtain ⟨c11, hw⟩ := wp_ck hw
    refine G_irem dX11_given_134 c11 ?_
    have hw := wp_if hw
    refine G_icmp_ge (tgt := 142) dX11_given_135 rfl (fun c12 => ?_) (fun c12 => ?_)
    · have hw := hw.1 c12
      refine G_iconst (v := (0 : Int32)) dX11_given_142 (by decide) ?_
      refine G.less [none, none, none, none, none, none, none] trivial ?_
      exact f_X11_given_143_ok hs _ _ h10 Q hw
    · have hw := hw.2 c12
      refine G_iconst (v := (1 : Int32)) dX11_given_138 (by decide) ?_
      refine G_goto (tgt := 143) dX11_given_139 rfl ?_
      refine G.less [none, none, none, none, none, none, none] trivial ?_
      exact f_X11_given_143_ok hs _ _ h10 Q hw
  · have hw := hw.2 c5
    refine G_iload dX11_given_54 rfl ?_
    refine G_iload_n dX11_given_56 rfl ?_
    refine G_iload dX11_given_57 rfl ?_
    refine G_ishr dX11_given_59 ?_
    refine G_iconst (v := (1 : Int32)) dX11_given_60 (by decide) ?_
    refine G_iand dX11_given_61 ?_
    refine G_iconst (v := (1 : Int32)) dX11_given_62 (by decide) ?_
    have hw := wp_if hw
    refine G_icmp_ne (tgt := 83) dX11_given_63 rfl (fun c13 => ?_) (fun c13 => ?_)
    · have hw := hw.2 c13
      refine G_iconst (v := (0 : Int32)) dX11_given_83 (by decide) ?_
      refine G.less [some (.ref l0), some (.int l1), some (.int l2), some (.int l3), none, some (.int l5), some (.int l6)] ⟨rfl, ⟨rfl, ⟨rfl, ⟨rfl, ⟨rfl, ⟨rfl, trivial⟩⟩⟩⟩⟩⟩ ?_
      exact f_X11_given_84_ok hs hK_43 _ _ _ _ _ _ _ _ h Q hw
    · have hw := hw.1 c13
      refine G_aload_n dX11_given_66 rfl ?_
      refine G_getR fl_X11_s w_1442 dX11_given_67 c1 ?_
      obtain ⟨a14, ea14, hw⟩ := wp_rq hw
      refine G.sure ea14 ?_
      refine G_bipush (v := (9 : Int32)) dX11_given_70 (by decide) ?_
      refine G_iconst (v := (5 : Int32)) dX11_given_72 (by decide) ?_
      refine G_iload dX11_given_73 rfl ?_
      refine G_imul dX11_given_75 ?_
      refine G_iadd dX11_given_76 ?_
      refine G_iload_n dX11_given_77 rfl ?_
      refine G_iadd dX11_given_78 ?_
      obtain ⟨c15, hw⟩ := wp_ck hw
      obtain ⟨c16, hw⟩ := wp_ck hw
      refine G_iaload dX11_given_79 c15 c16 ?_
      refine G_goto (tgt := 84) dX11_given_80 rfl ?_
      refine G.less [some (.ref l0), some (.int l1), some (.int l2), some (.int l3), none, some (.int l5), some (.int l6)] ⟨rfl, ⟨rfl, ⟨rfl, ⟨rfl, ⟨rfl, ⟨rfl, trivial⟩⟩⟩⟩⟩⟩ ?_
      exact f_X11_given_84_ok hs hK_43 _ _ _ _ _ _ _ _ h Q hw
theorem f_X11_given_43_ok {Γ : GX} (hs : SF Γ) {N : Nat} : ∀ (n : Nat) (l0 : Nat) (l1 : Int32) (l2 : Int32) (l3 : Int32) (l4 : Int32) (l5 : Int32) (l6 : Int32) (h : PH) (Q : Int32 → PH → Prop), wp (f_X11_given_43 N n l0 l1 l2 l3 l4 l5 l6 h) Q → G Γ yX11_given cX11_given 7 (some .int) (2, 0, 0) 43 [some (.ref l0), some (.int l1), some (.int l2), some (.int l3), some (.int l4), some (.int l5), some (.int l6)] [] h (0, 0) (q_i Q)
  | 0, _, _, _, _, _, _, _, _, Q, hw => (wp_no hw).elim
  | n + 1, l0, l1, l2, l3, l4, l5, l6, h, Q, hw => f_X11_given_43_bok (N := N) hs (f_X11_given_43_ok (N := N) hs n) l0 l1 l2 l3 l4 l5 l6 h Q hw
set_option maxHeartbeats 4000000 in
set_option maxRecDepth 100000 in
theorem s_X11_given {Γ : GX} (hs : SF Γ) {N : Nat} (l0 : Nat) (l1 : Int32) (l2 : Int32) (h : PH) (Q : Int32 → PH → Prop) (hw : wp (f_X11_given N l0 l1 l2 h) Q) : Spec Γ yX11_given cX11_given 7 (some .int) (2, 0, 0) [.ref l0, .int l1, .int l2] h (q_i Q) := by
  refine Spec.of (by decide) (Nat.le_of_ble_eq_true rfl) [some (.ref l0), some (.int l1), some (.int l2), none, none, none, none] rfl ?_
  unfold f_X11_given at hw
  refine G_aload_n dX11_given_0 rfl ?_
  refine G_iconst (v := (0 : Int32)) dX11_given_1 (by decide) ?_
  obtain ⟨c1, hw⟩ := wp_ck hw
  refine G_putI fl_X11_thrown w_1393 dX11_given_2 c1 ?_
  refine G.nmh fun h2 eh2 => ?_
  have hw := wp_bd hw h2 eh2
  refine G_aload_n dX11_given_5 rfl ?_
  refine G_iload_n dX11_given_6 rfl ?_
  obtain ⟨c5, hw⟩ := wp_ck hw
  refine G_callV (As := [.int l1]) (s_X11_isHouse hs l0 l1 h2 _ (wp_cl hw)) ca_X11_isHouse w_1786 w_77 (ci := 10) rfl (by decide) w_1784 c5 (Nat.le_of_ble_eq_true rfl) (Nat.le_of_ble_eq_true rfl) rfl (Nat.le_of_ble_eq_true rfl) (Nat.le_of_ble_eq_true rfl) (Nat.le_of_ble_eq_true rfl) dX11_given_7 rfl (fun v h4 hq => ?_)
  obtain ⟨r3, rfl, hw⟩ := hq
  refine G.cse (cs' := (0, 0)) rfl ?_
  show GZ _ _ _ _ _ _ _ 10 _ (.int r3 :: []) _ _
  have hw := wp_if hw
  refine G_if_eq (tgt := 21) dX11_given_10 rfl (fun c6 => ?_) (fun c6 => ?_)
  · have hw := hw.1 c6
    refine G_iconst (v := (-1 : Int32)) dX11_given_21 (by decide) ?_
    exact G_ireturn rfl dX11_given_22 ⟨_, rfl, wp_ret hw⟩
  · have hw := hw.2 c6
    refine G_aload_n dX11_given_13 rfl ?_
    refine G_iload_n dX11_given_14 rfl ?_
    obtain ⟨c9, hw⟩ := wp_ck hw
    refine G_callV (As := [.int l2]) (s_X11_isFuel hs l0 l2 h4 _ (wp_cl hw)) ca_X11_isFuel w_1850 w_90 (ci := 10) rfl (by decide) w_1848 c9 (Nat.le_of_ble_eq_true rfl) (Nat.le_of_ble_eq_true rfl) rfl (Nat.le_of_ble_eq_true rfl) (Nat.le_of_ble_eq_true rfl) (Nat.le_of_ble_eq_true rfl) dX11_given_15 rfl (fun v h8 hq => ?_)
    obtain ⟨r7, rfl, hw⟩ := hq
    refine G.cse (cs' := (0, 0)) rfl ?_
    show GZ _ _ _ _ _ _ _ 18 _ (.int r7 :: []) _ _
    have hw := wp_if hw
    refine G_if_ne (tgt := 23) dX11_given_18 rfl (fun c10 => ?_) (fun c10 => ?_)
    · have hw := hw.2 c10
      refine G_aload_n dX11_given_23 rfl ?_
      refine G_aload_n dX11_given_24 rfl ?_
      obtain ⟨c11, hw⟩ := wp_ck hw
      refine G_getR fl_X11_houseAt w_1408 dX11_given_25 c11 ?_
      obtain ⟨a12, ea12, hw⟩ := wp_rq hw
      refine G.sure ea12 ?_
      refine G_iload_n dX11_given_28 rfl ?_
      obtain ⟨c13, hw⟩ := wp_ck hw
      obtain ⟨c14, hw⟩ := wp_ck hw
      refine G_iaload dX11_given_29 c13 c14 ?_
      refine G_callV (As := [.int (hI h8 a12 (ix l1))]) (s_X11_housesOf hs l0 (hI h8 a12 (ix l1)) h8 _ (wp_cl hw)) ca_X11_housesOf w_1842 w_89 (ci := 10) rfl (by decide) w_1840 c11 (Nat.le_of_ble_eq_true rfl) (Nat.le_of_ble_eq_true rfl) rfl (Nat.le_of_ble_eq_true rfl) (Nat.le_of_ble_eq_true rfl) (Nat.le_of_ble_eq_true rfl) dX11_given_30 rfl (fun v h16 hq => ?_)
      obtain ⟨r15, rfl, hw⟩ := hq
      refine G.cse (cs' := (0, 0)) rfl ?_
      show GZ _ _ _ _ _ _ _ 33 _ (.int r15 :: []) _ _
      refine G_istore_n (lv' := [some (.ref l0), some (.int l1), some (.int l2), some (.int r15), none, none, none]) dX11_given_33 (Nat.le_of_ble_eq_true rfl) rfl ?_
      refine G_iconst (v := (0 : Int32)) dX11_given_34 (by decide) ?_
      refine G_istore (lv' := [some (.ref l0), some (.int l1), some (.int l2), some (.int r15), some (.int (0 : Int32)), none, none]) dX11_given_35 (Nat.le_of_ble_eq_true rfl) rfl ?_
      refine G_iconst (v := (0 : Int32)) dX11_given_37 (by decide) ?_
      refine G_istore (lv' := [some (.ref l0), some (.int l1), some (.int l2), some (.int r15), some (.int (0 : Int32)), some (.int (0 : Int32)), none]) dX11_given_38 (Nat.le_of_ble_eq_true rfl) rfl ?_
      refine G_iconst (v := (0 : Int32)) dX11_given_40 (by decide) ?_
      refine G_istore (lv' := [some (.ref l0), some (.int l1), some (.int l2), some (.int r15), some (.int (0 : Int32)), some (.int (0 : Int32)), some (.int (0 : Int32))]) dX11_given_41 (Nat.le_of_ble_eq_true rfl) rfl ?_
      refine G.less [some (.ref l0), some (.int l1), some (.int l2), some (.int r15), some (.int (0 : Int32)), some (.int (0 : Int32)), some (.int (0 : Int32))] ⟨rfl, ⟨rfl, ⟨rfl, ⟨rfl, ⟨rfl, ⟨rfl, ⟨rfl, trivial⟩⟩⟩⟩⟩⟩⟩ ?_
      exact f_X11_given_43_ok hs N _ _ _ _ _ _ _ h16 Q hw
    · have hw := hw.1 c10
      refine G_iconst (v := (-1 : Int32)) dX11_given_21 (by decide) ?_
      exact G_ireturn rfl dX11_given_22 ⟨_, rfl, wp_ret hw⟩
set_option maxHeartbeats 4000000 in
set_option maxRecDepth 100000 in
theorem f_X11_getsBy_34_ok {Γ : GX} (hs : SF Γ) {N : Nat} (s0 : Int32) (s1 : Int32) (h : PH) (Q : Int32 → PH → Prop) (hw : wp (f_X11_getsBy_34 N s0 s1 h) Q) : G Γ yX11_getsBy cX11_getsBy 4 (some .int) (9, 0, 0) 34 [none, none, none, none] [.int s0, .int s1] h (0, 0) (q_i Q) := by
  unfold f_X11_getsBy_34 at hw
  refine G_isub dX11_getsBy_34 ?_
  exact G_ireturn rfl dX11_getsBy_35 ⟨_, rfl, wp_ret hw⟩
set_option maxHeartbeats 4000000 in
set_option maxRecDepth 100000 in
theorem f_X11_getsBy_19_ok {Γ : GX} (hs : SF Γ) {N : Nat} (s0 : Int32) (l0 : Nat) (l1 : Int32) (h : PH) (Q : Int32 → PH → Prop) (hw : wp (f_X11_getsBy_19 N s0 l0 l1 h) Q) : G Γ yX11_getsBy cX11_getsBy 4 (some .int) (9, 0, 0) 19 [some (.ref l0), some (.int l1), none, none] [.int s0] h (0, 0) (q_i Q) := by
  unfold f_X11_getsBy_19 at hw
  refine G_aload_n dX11_getsBy_19 rfl ?_
  obtain ⟨c1, hw⟩ := wp_ck hw
  refine G_getR fl_X11_way w_1450 dX11_getsBy_20 c1 ?_
  obtain ⟨a2, ea2, hw⟩ := wp_rq hw
  refine G.sure ea2 ?_
  refine G_iload_n dX11_getsBy_23 rfl ?_
  obtain ⟨c3, hw⟩ := wp_ck hw
  obtain ⟨c4, hw⟩ := wp_ck hw
  refine G_iaload dX11_getsBy_24 c3 c4 ?_
  refine G_iconst (v := (5 : Int32)) dX11_getsBy_25 (by decide) ?_
  have hw := wp_if hw
  refine G_icmp_ge (tgt := 33) dX11_getsBy_26 rfl (fun c5 => ?_) (fun c5 => ?_)
  · have hw := hw.1 c5
    refine G_iconst (v := (0 : Int32)) dX11_getsBy_33 (by decide) ?_
    refine G.less [none, none, none, none] trivial ?_
    exact f_X11_getsBy_34_ok hs _ _ h Q hw
  · have hw := hw.2 c5
    refine G_iconst (v := (1 : Int32)) dX11_getsBy_29 (by decide) ?_
    refine G_goto (tgt := 34) dX11_getsBy_30 rfl ?_
    refine G.less [none, none, none, none] trivial ?_
    exact f_X11_getsBy_34_ok hs _ _ h Q hw
set_option maxHeartbeats 4000000 in
set_option maxRecDepth 100000 in
theorem s_X11_getsBy {Γ : GX} (hs : SF Γ) {N : Nat} (l0 : Nat) (l1 : Int32) (l2 : Int32) (l3 : Int32) (h : PH) (Q : Int32 → PH → Prop) (hw : wp (f_X11_getsBy N l0 l1 l2 l3 h) Q) : Spec Γ yX11_getsBy cX11_getsBy 4 (some .int) (9, 0, 0) [.ref l0, .int l1, .int l2, .int l3] h (q_i Q) := by
  refine Spec.of (by decide) (Nat.le_of_ble_eq_true rfl) [some (.ref l0), some (.int l1), some (.int l2), some (.int l3)] rfl ?_
  unfold f_X11_getsBy at hw
  refine G_aload_n dX11_getsBy_0 rfl ?_
  refine G_aload_n dX11_getsBy_1 rfl ?_
  obtain ⟨c1, hw⟩ := wp_ck hw
  refine G_getR fl_X11_houseAt w_1408 dX11_getsBy_2 c1 ?_
  obtain ⟨a2, ea2, hw⟩ := wp_rq hw
  refine G.sure ea2 ?_
  refine G_iload_n dX11_getsBy_5 rfl ?_
  obtain ⟨c3, hw⟩ := wp_ck hw
  obtain ⟨c4, hw⟩ := wp_ck hw
  refine G_iaload dX11_getsBy_6 c3 c4 ?_
  refine G_callV (As := [.int (hI h a2 (ix l1))]) (s_X11_signBy hs l0 (hI h a2 (ix l1)) h _ (wp_cl hw)) ca_X11_signBy w_1929 w_104 (ci := 10) rfl (by decide) w_1927 c1 (Nat.le_of_ble_eq_true rfl) (Nat.le_of_ble_eq_true rfl) rfl (Nat.le_of_ble_eq_true rfl) (Nat.le_of_ble_eq_true rfl) (Nat.le_of_ble_eq_true rfl) dX11_getsBy_7 rfl (fun v h6 hq => ?_)
  obtain ⟨r5, rfl, hw⟩ := hq
  refine G.cse (cs' := (0, 0)) rfl ?_
  show GZ _ _ _ _ _ _ _ 10 _ (.int r5 :: []) _ _
  refine G_iload_n dX11_getsBy_10 rfl ?_
  have hw := wp_if hw
  refine G_icmp_ne (tgt := 18) dX11_getsBy_11 rfl (fun c7 => ?_) (fun c7 => ?_)
  · have hw := hw.2 c7
    refine G_iconst (v := (0 : Int32)) dX11_getsBy_18 (by decide) ?_
    refine G.less [some (.ref l0), some (.int l1), none, none] ⟨rfl, ⟨rfl, trivial⟩⟩ ?_
    exact f_X11_getsBy_19_ok hs _ _ _ h6 Q hw
  · have hw := hw.1 c7
    refine G_iload_n dX11_getsBy_14 rfl ?_
    refine G_goto (tgt := 19) dX11_getsBy_15 rfl ?_
    refine G.less [some (.ref l0), some (.int l1), none, none] ⟨rfl, ⟨rfl, trivial⟩⟩ ?_
    exact f_X11_getsBy_19_ok hs _ _ _ h6 Q hw
set_option maxHeartbeats 4000000 in
set_option maxRecDepth 100000 in
theorem f_X11_isContent_74_ok {Γ : GX} (hs : SF Γ) {N : Nat} {K_23 : Nat → Int32 → Int32 → Int32 → Int32 → Int32 → Int32 → Int32 → PH → Option (Int32 × PH)} (hK_23 : ∀ (l0 : Nat) (l1 : Int32) (l2 : Int32) (l3 : Int32) (l4 : Int32) (l5 : Int32) (l6 : Int32) (l7 : Int32) (h : PH) (Q : Int32 → PH → Prop), wp (K_23 l0 l1 l2 l3 l4 l5 l6 l7 h) Q → G Γ yX11_isContent cX11_isContent 8 (some .boolean) (10, 0, 0) 23 [some (.ref l0), some (.int l1), some (.int l2), some (.int l3), some (.int l4), some (.int l5), some (.int l6), some (.int l7)] [] h (0, 0) (q_i Q)) (l0 : Nat) (l1 : Int32) (l2 : Int32) (l3 : Int32) (l4 : Int32) (l5 : Int32) (l6 : Int32) (l7 : Int32) (h : PH) (Q : Int32 → PH → Prop) (hw : wp (f_X11_isContent_74 N K_23 l0 l1 l2 l3 l4 l5 l6 l7 h) Q) : G Γ yX11_isContent cX11_isContent 8 (some .boolean) (10, 0, 0) 74 [some (.ref l0), some (.int l1), some (.int l2), some (.int l3), some (.int l4), some (.int l5), some (.int l6), some (.int l7)] [] h (0, 0) (q_i Q) := by
  unfold f_X11_isContent_74 at hw
  obtain ⟨v1, ev1⟩ : ∃ z : Int32, z = l7 + (1 : Int32) := ⟨_, rfl⟩
  have hw := wp_bd hw v1 ev1
  refine G_iinc (v := v1) (lv' := [some (.ref l0), some (.int l1), some (.int l2), some (.int l3), some (.int l4), some (.int l5), some (.int l6), some (.int v1)]) dX11_isContent_74 rfl (by rw [ev1]; rfl) (Nat.le_of_ble_eq_true rfl) rfl ?_
  refine G_goto (tgt := 23) dX11_isContent_77 rfl ?_
  refine G.less [some (.ref l0), some (.int l1), some (.int l2), some (.int l3), some (.int l4), some (.int l5), some (.int l6), some (.int v1)] ⟨rfl, ⟨rfl, ⟨rfl, ⟨rfl, ⟨rfl, ⟨rfl, ⟨rfl, ⟨rfl, trivial⟩⟩⟩⟩⟩⟩⟩⟩ ?_
  exact hK_23 _ _ _ _ _ _ _ _ h Q hw
set_option maxHeartbeats 4000000 in
set_option maxRecDepth 100000 in
theorem f_X11_isContent_72_ok {Γ : GX} (hs : SF Γ) {N : Nat} {K_23 : Nat → Int32 → Int32 → Int32 → Int32 → Int32 → Int32 → Int32 → PH → Option (Int32 × PH)} (hK_23 : ∀ (l0 : Nat) (l1 : Int32) (l2 : Int32) (l3 : Int32) (l4 : Int32) (l5 : Int32) (l6 : Int32) (l7 : Int32) (h : PH) (Q : Int32 → PH → Prop), wp (K_23 l0 l1 l2 l3 l4 l5 l6 l7 h) Q → G Γ yX11_isContent cX11_isContent 8 (some .boolean) (10, 0, 0) 23 [some (.ref l0), some (.int l1), some (.int l2), some (.int l3), some (.int l4), some (.int l5), some (.int l6), some (.int l7)] [] h (0, 0) (q_i Q)) (s0 : Int32) (l0 : Nat) (l1 : Int32) (l2 : Int32) (l3 : Int32) (l4 : Int32) (l5 : Int32) (l7 : Int32) (h : PH) (Q : Int32 → PH → Prop) (hw : wp (f_X11_isContent_72 N K_23 s0 l0 l1 l2 l3 l4 l5 l7 h) Q) : G Γ yX11_isContent cX11_isContent 8 (some .boolean) (10, 0, 0) 72 [some (.ref l0), some (.int l1), some (.int l2), some (.int l3), some (.int l4), some (.int l5), none, some (.int l7)] [.int s0] h (0, 0) (q_i Q) := by
  unfold f_X11_isContent_72 at hw
  refine G_istore (lv' := [some (.ref l0), some (.int l1), some (.int l2), some (.int l3), some (.int l4), some (.int l5), some (.int s0), some (.int l7)]) dX11_isContent_72 (Nat.le_of_ble_eq_true rfl) rfl ?_
  refine G.less [some (.ref l0), some (.int l1), some (.int l2), some (.int l3), some (.int l4), some (.int l5), some (.int s0), some (.int l7)] ⟨rfl, ⟨rfl, ⟨rfl, ⟨rfl, ⟨rfl, ⟨rfl, ⟨rfl, ⟨rfl, trivial⟩⟩⟩⟩⟩⟩⟩⟩ ?_
  exact f_X11_isContent_74_ok hs hK_23 _ _ _ _ _ _ _ _ h Q hw
set_option maxHeartbeats 4000000 in
set_option maxRecDepth 100000 in
theorem f_X11_isContent_80_ok {Γ : GX} (hs : SF Γ) {N : Nat} (l0 : Nat) (l1 : Int32) (l4 : Int32) (l6 : Int32) (h : PH) (Q : Int32 → PH → Prop) (hw : wp (f_X11_isContent_80 N l0 l1 l4 l6 h) Q) : G Γ yX11_isContent cX11_isContent 8 (some .boolean) (10, 0, 0) 80 [some (.ref l0), some (.int l1), none, none, some (.int l4), none, some (.int l6), none] [] h (0, 0) (q_i Q) := by
  unfold f_X11_isContent_80 at hw
  refine G_aload_n dX11_isContent_80 rfl ?_
  obtain ⟨c1, hw⟩ := wp_ck hw
  refine G_getR fl_X11_way w_1450 dX11_isContent_81 c1 ?_
  obtain ⟨a2, ea2, hw⟩ := wp_rq hw
  refine G.sure ea2 ?_
  refine G_iload_n dX11_isContent_84 rfl ?_
  refine G_iload dX11_isContent_85 rfl ?_
  obtain ⟨c3, hw⟩ := wp_ck hw
  obtain ⟨c4, hw⟩ := wp_ck hw
  refine G_iastore dX11_isContent_87 c3 c4 ?_
  refine G.nmh fun h5 eh5 => ?_
  have hw := wp_bd hw h5 eh5
  refine G_iload dX11_isContent_88 rfl ?_
  obtain ⟨c6, hw⟩ := wp_ck hw
  exact G_zreturn rfl dX11_isContent_90 (g_nb c6) ⟨_, rfl, wp_ret hw⟩
set_option maxHeartbeats 4000000 in
set_option maxRecDepth 100000 in
theorem f_X11_isContent_23_bok {Γ : GX} (hs : SF Γ) {N : Nat} {K_23 : Nat → Int32 → Int32 → Int32 → Int32 → Int32 → Int32 → Int32 → PH → Option (Int32 × PH)} (hK_23 : ∀ (l0 : Nat) (l1 : Int32) (l2 : Int32) (l3 : Int32) (l4 : Int32) (l5 : Int32) (l6 : Int32) (l7 : Int32) (h : PH) (Q : Int32 → PH → Prop), wp (K_23 l0 l1 l2 l3 l4 l5 l6 l7 h) Q → G Γ yX11_isContent cX11_isContent 8 (some .boolean) (10, 0, 0) 23 [some (.ref l0), some (.int l1), some (.int l2), some (.int l3), some (.int l4), some (.int l5), some (.int l6), some (.int l7)] [] h (0, 0) (q_i Q)) (l0 : Nat) (l1 : Int32) (l2 : Int32) (l3 : Int32) (l4 : Int32) (l5 : Int32) (l6 : Int32) (l7 : Int32) (h : PH) (Q : Int32 → PH → Prop) (hw : wp (f_X11_isContent_23_b N K_23 l0 l1 l2 l3 l4 l5 l6 l7 h) Q) : G Γ yX11_isContent cX11_isContent 8 (some .boolean) (10, 0, 0) 23 [some (.ref l0), some (.int l1), some (.int l2), some (.int l3), some (.int l4), some (.int l5), some (.int l6), some (.int l7)] [] h (0, 0) (q_i Q) := by
  unfold f_X11_isContent_23_b at hw
  refine G_iload dX11_isContent_23 rfl ?_
  refine G_iconst (v := (5 : Int32)) dX11_isContent_25 (by decide) ?_
  have hw := wp_if hw
  refine G_icmp_gt (tgt := 80) dX11_isContent_26 rfl (fun c1 => ?_) (fun c1 => ?_)
  · have hw := hw.1 c1
    refine G.less [some (.ref l0), some (.int l1), none, none, some (.int l4), none, some (.int l6), none] ⟨rfl, ⟨rfl, ⟨rfl, ⟨rfl, trivial⟩⟩⟩⟩ ?_
    exact f_X11_isContent_80_ok hs _ _ _ _ h Q hw
  · have hw := hw.2 c1
    refine G_iload dX11_isContent_29 rfl ?_
    have hw := wp_if hw
    refine G_if_eq (tgt := 80) dX11_isContent_31 rfl (fun c2 => ?_) (fun c2 => ?_)
    · have hw := hw.1 c2
      refine G.less [some (.ref l0), some (.int l1), none, none, some (.int l4), none, some (.int l6), none] ⟨rfl, ⟨rfl, ⟨rfl, ⟨rfl, trivial⟩⟩⟩⟩ ?_
      exact f_X11_isContent_80_ok hs _ _ _ _ h Q hw
    · have hw := hw.2 c2
      refine G_aload_n dX11_isContent_34 rfl ?_
      refine G_iload_n dX11_isContent_35 rfl ?_
      refine G_iload dX11_isContent_36 rfl ?_
      obtain ⟨c5, hw⟩ := wp_ck hw
      refine G_callV (As := [.int l1, .int l7]) (s_X11_mayBurn hs l0 l1 l7 h _ (wp_cl hw)) ca_X11_mayBurn w_1921 w_102 (ci := 10) rfl (by decide) w_1919 c5 (Nat.le_of_ble_eq_true rfl) (Nat.le_of_ble_eq_true rfl) rfl (Nat.le_of_ble_eq_true rfl) (Nat.le_of_ble_eq_true rfl) (Nat.le_of_ble_eq_true rfl) dX11_isContent_38 rfl (fun v h4 hq => ?_)
      obtain ⟨r3, rfl, hw⟩ := hq
      refine G.cse (cs' := (0, 0)) rfl ?_
      show GZ _ _ _ _ _ _ _ 41 _ (.int r3 :: []) _ _
      have hw := wp_if hw
      refine G_if_ne (tgt := 47) dX11_isContent_41 rfl (fun c6 => ?_) (fun c6 => ?_)
      · have hw := hw.2 c6
        refine G_aload_n dX11_isContent_47 rfl ?_
        obtain ⟨c7, hw⟩ := wp_ck hw
        refine G_getR fl_X11_way w_1450 dX11_isContent_48 c7 ?_
        obtain ⟨a8, ea8, hw⟩ := wp_rq hw
        refine G.sure ea8 ?_
        refine G_iload_n dX11_isContent_51 rfl ?_
        refine G_iload dX11_isContent_52 rfl ?_
        obtain ⟨c9, hw⟩ := wp_ck hw
        obtain ⟨c10, hw⟩ := wp_ck hw
        refine G_iastore dX11_isContent_54 c9 c10 ?_
        refine G.nmh fun h11 eh11 => ?_
        have hw := wp_bd hw h11 eh11
        refine G_aload_n dX11_isContent_55 rfl ?_
        refine G_iload_n dX11_isContent_56 rfl ?_
        refine G_iload_n dX11_isContent_57 rfl ?_
        refine G_iload_n dX11_isContent_58 rfl ?_
        obtain ⟨c14, hw⟩ := wp_ck hw
        refine G_callV (As := [.int l1, .int l2, .int l3]) (s_X11_getsBy hs l0 l1 l2 l3 h11 _ (wp_cl hw)) ca_X11_getsBy w_2045 w_122 (ci := 10) rfl (by decide) w_2043 c14 (Nat.le_of_ble_eq_true rfl) (Nat.le_of_ble_eq_true rfl) rfl (Nat.le_of_ble_eq_true rfl) (Nat.le_of_ble_eq_true rfl) (Nat.le_of_ble_eq_true rfl) dX11_isContent_59 rfl (fun v h13 hq => ?_)
        obtain ⟨r12, rfl, hw⟩ := hq
        refine G.cse (cs' := (0, 0)) rfl ?_
        show GZ _ _ _ _ _ _ _ 62 _ (.int r12 :: []) _ _
        refine G_iload dX11_isContent_62 rfl ?_
        have hw := wp_if hw
        refine G_icmp_gt (tgt := 71) dX11_isContent_64 rfl (fun c15 => ?_) (fun c15 => ?_)
        · have hw := hw.1 c15
          refine G_iconst (v := (0 : Int32)) dX11_isContent_71 (by decide) ?_
          refine G.less [some (.ref l0), some (.int l1), some (.int l2), some (.int l3), some (.int l4), some (.int l5), none, some (.int l7)] ⟨rfl, ⟨rfl, ⟨rfl, ⟨rfl, ⟨rfl, ⟨rfl, ⟨rfl, trivial⟩⟩⟩⟩⟩⟩⟩ ?_
          exact f_X11_isContent_72_ok hs hK_23 _ _ _ _ _ _ _ _ h13 Q hw
        · have hw := hw.2 c15
          refine G_iconst (v := (1 : Int32)) dX11_isContent_67 (by decide) ?_
          refine G_goto (tgt := 72) dX11_isContent_68 rfl ?_
          refine G.less [some (.ref l0), some (.int l1), some (.int l2), some (.int l3), some (.int l4), some (.int l5), none, some (.int l7)] ⟨rfl, ⟨rfl, ⟨rfl, ⟨rfl, ⟨rfl, ⟨rfl, ⟨rfl, trivial⟩⟩⟩⟩⟩⟩⟩ ?_
          exact f_X11_isContent_72_ok hs hK_23 _ _ _ _ _ _ _ _ h13 Q hw
      · have hw := hw.1 c6
        refine G_goto (tgt := 74) dX11_isContent_44 rfl ?_
        refine G.less [some (.ref l0), some (.int l1), some (.int l2), some (.int l3), some (.int l4), some (.int l5), some (.int l6), some (.int l7)] ⟨rfl, ⟨rfl, ⟨rfl, ⟨rfl, ⟨rfl, ⟨rfl, ⟨rfl, ⟨rfl, trivial⟩⟩⟩⟩⟩⟩⟩⟩ ?_
        exact f_X11_isContent_74_ok hs hK_23 _ _ _ _ _ _ _ _ h4 Q hw
theorem f_X11_isContent_23_ok {Γ : GX} (hs : SF Γ) {N : Nat} : ∀ (n : Nat) (l0 : Nat) (l1 : Int32) (l2 : Int32) (l3 : Int32) (l4 : Int32) (l5 : Int32) (l6 : Int32) (l7 : Int32) (h : PH) (Q : Int32 → PH → Prop), wp (f_X11_isContent_23 N n l0 l1 l2 l3 l4 l5 l6 l7 h) Q → G Γ yX11_isContent cX11_isContent 8 (some .boolean) (10, 0, 0) 23 [some (.ref l0), some (.int l1), some (.int l2), some (.int l3), some (.int l4), some (.int l5), some (.int l6), some (.int l7)] [] h (0, 0) (q_i Q)
  | 0, _, _, _, _, _, _, _, _, _, Q, hw => (wp_no hw).elim
  | n + 1, l0, l1, l2, l3, l4, l5, l6, l7, h, Q, hw => f_X11_isContent_23_bok (N := N) hs (f_X11_isContent_23_ok (N := N) hs n) l0 l1 l2 l3 l4 l5 l6 l7 h Q hw
set_option maxHeartbeats 4000000 in
set_option maxRecDepth 100000 in
theorem s_X11_isContent {Γ : GX} (hs : SF Γ) {N : Nat} (l0 : Nat) (l1 : Int32) (l2 : Int32) (l3 : Int32) (h : PH) (Q : Int32 → PH → Prop) (hw : wp (f_X11_isContent N l0 l1 l2 l3 h) Q) : Spec Γ yX11_isContent cX11_isContent 8 (some .boolean) (10, 0, 0) [.ref l0, .int l1, .int l2, .int l3] h (q_i Q) := by
  refine Spec.of (by decide) (Nat.le_of_ble_eq_true rfl) [some (.ref l0), some (.int l1), some (.int l2), some (.int l3), none, none, none, none] rfl ?_
  unfold f_X11_isContent at hw
  refine G_aload_n dX11_isContent_0 rfl ?_
  obtain ⟨c1, hw⟩ := wp_ck hw
  refine G_getR fl_X11_way w_1450 dX11_isContent_1 c1 ?_
  obtain ⟨a2, ea2, hw⟩ := wp_rq hw
  refine G.sure ea2 ?_
  refine G_iload_n dX11_isContent_4 rfl ?_
  obtain ⟨c3, hw⟩ := wp_ck hw
  obtain ⟨c4, hw⟩ := wp_ck hw
  refine G_iaload dX11_isContent_5 c3 c4 ?_
  refine G.topi fun v5 ev5 => ?_
  have hw := wp_bd hw v5 ev5
  refine G_istore (lv' := [some (.ref l0), some (.int l1), some (.int l2), some (.int l3), some (.int v5), none, none, none]) dX11_isContent_6 (Nat.le_of_ble_eq_true rfl) rfl ?_
  refine G_aload_n dX11_isContent_8 rfl ?_
  refine G_iload_n dX11_isContent_9 rfl ?_
  refine G_iload_n dX11_isContent_10 rfl ?_
  refine G_iload_n dX11_isContent_11 rfl ?_
  refine G_callV (As := [.int l1, .int l2, .int l3]) (s_X11_getsBy hs l0 l1 l2 l3 h _ (wp_cl hw)) ca_X11_getsBy w_2045 w_122 (ci := 10) rfl (by decide) w_2043 c1 (Nat.le_of_ble_eq_true rfl) (Nat.le_of_ble_eq_true rfl) rfl (Nat.le_of_ble_eq_true rfl) (Nat.le_of_ble_eq_true rfl) (Nat.le_of_ble_eq_true rfl) dX11_isContent_12 rfl (fun v h7 hq => ?_)
  obtain ⟨r6, rfl, hw⟩ := hq
  refine G.cse (cs' := (0, 0)) rfl ?_
  show GZ _ _ _ _ _ _ _ 15 _ (.int r6 :: []) _ _
  refine G_istore (lv' := [some (.ref l0), some (.int l1), some (.int l2), some (.int l3), some (.int v5), some (.int r6), none, none]) dX11_isContent_15 (Nat.le_of_ble_eq_true rfl) rfl ?_
  refine G_iconst (v := (1 : Int32)) dX11_isContent_17 (by decide) ?_
  refine G_istore (lv' := [some (.ref l0), some (.int l1), some (.int l2), some (.int l3), some (.int v5), some (.int r6), some (.int (1 : Int32)), none]) dX11_isContent_18 (Nat.le_of_ble_eq_true rfl) rfl ?_
  refine G_iconst (v := (0 : Int32)) dX11_isContent_20 (by decide) ?_
  refine G_istore (lv' := [some (.ref l0), some (.int l1), some (.int l2), some (.int l3), some (.int v5), some (.int r6), some (.int (1 : Int32)), some (.int (0 : Int32))]) dX11_isContent_21 (Nat.le_of_ble_eq_true rfl) rfl ?_
  refine G.less [some (.ref l0), some (.int l1), some (.int l2), some (.int l3), some (.int v5), some (.int r6), some (.int (1 : Int32)), some (.int (0 : Int32))] ⟨rfl, ⟨rfl, ⟨rfl, ⟨rfl, ⟨rfl, ⟨rfl, ⟨rfl, ⟨rfl, trivial⟩⟩⟩⟩⟩⟩⟩⟩ ?_
  exact f_X11_isContent_23_ok hs N _ _ _ _ _ _ _ _ h7 Q hw
set_option maxHeartbeats 4000000 in
set_option maxRecDepth 100000 in
theorem f_X11_rests_242_ok {Γ : GX} (hs : SF Γ) {N : Nat} {K_115 : Nat → Int32 → Int32 → Int32 → Int32 → Int32 → Int32 → Int32 → Int32 → PH → Option (Int32 × PH)} (hK_115 : ∀ (l0 : Nat) (l1 : Int32) (l2 : Int32) (l3 : Int32) (l4 : Int32) (l5 : Int32) (l6 : Int32) (l7 : Int32) (l8 : Int32) (h : PH) (Q : Int32 → PH → Prop), wp (K_115 l0 l1 l2 l3 l4 l5 l6 l7 l8 h) Q → G Γ yX11_rests cX11_rests 9 (some .int) (11, 0, 0) 115 [some (.ref l0), some (.int l1), some (.int l2), some (.int l3), some (.int l4), some (.int l5), some (.int l6), some (.int l7), some (.int l8)] [] h (0, 0) (q_i Q)) (l0 : Nat) (l1 : Int32) (l2 : Int32) (l3 : Int32) (l4 : Int32) (l5 : Int32) (l6 : Int32) (l7 : Int32) (l8 : Int32) (h : PH) (Q : Int32 → PH → Prop) (hw : wp (f_X11_rests_242 N K_115 l0 l1 l2 l3 l4 l5 l6 l7 l8 h) Q) : G Γ yX11_rests cX11_rests 9 (some .int) (11, 0, 0) 242 [some (.ref l0), some (.int l1), some (.int l2), some (.int l3), some (.int l4), some (.int l5), some (.int l6), some (.int l7), some (.int l8)] [] h (0, 0) (q_i Q) := by
  unfold f_X11_rests_242 at hw
  obtain ⟨v1, ev1⟩ : ∃ z : Int32, z = l8 + (1 : Int32) := ⟨_, rfl⟩
  have hw := wp_bd hw v1 ev1
  refine G_iinc (v := v1) (lv' := [some (.ref l0), some (.int l1), some (.int l2), some (.int l3), some (.int l4), some (.int l5), some (.int l6), some (.int l7), some (.int v1)]) dX11_rests_242 rfl (by rw [ev1]; rfl) (Nat.le_of_ble_eq_true rfl) rfl ?_
  refine G_goto (tgt := 115) dX11_rests_245 rfl ?_
  refine G.less [some (.ref l0), some (.int l1), some (.int l2), some (.int l3), some (.int l4), some (.int l5), some (.int l6), some (.int l7), some (.int v1)] ⟨rfl, ⟨rfl, ⟨rfl, ⟨rfl, ⟨rfl, ⟨rfl, ⟨rfl, ⟨rfl, ⟨rfl, trivial⟩⟩⟩⟩⟩⟩⟩⟩⟩ ?_
  exact hK_115 _ _ _ _ _ _ _ _ _ h Q hw
set_option maxHeartbeats 4000000 in
set_option maxRecDepth 100000 in
theorem f_X11_rests_260_ok {Γ : GX} (hs : SF Γ) {N : Nat} (s0 : Int32) (s1 : Nat) (l6 : Int32) (l7 : Int32) (h : PH) (Q : Int32 → PH → Prop) (hw : wp (f_X11_rests_260 N s0 s1 l6 l7 h) Q) : G Γ yX11_rests cX11_rests 9 (some .int) (11, 0, 0) 260 [none, none, none, none, none, none, some (.int l6), some (.int l7), none] [.int s0, .ref s1] h (0, 0) (q_i Q) := by
  unfold f_X11_rests_260 at hw
  obtain ⟨c1, hw⟩ := wp_ck hw
  refine G_putI fl_X11_thrown w_1393 dX11_rests_260 c1 ?_
  refine G.nmh fun h2 eh2 => ?_
  have hw := wp_bd hw h2 eh2
  refine G_iload dX11_rests_263 rfl ?_
  refine G_iconst (v := (-1 : Int32)) dX11_rests_265 (by decide) ?_
  have hw := wp_if hw
  refine G_icmp_ne (tgt := 274) dX11_rests_266 rfl (fun c3 => ?_) (fun c3 => ?_)
  · have hw := hw.2 c3
    refine G_iconst (v := (0 : Int32)) dX11_rests_274 (by decide) ?_
    exact G_ireturn rfl dX11_rests_275 ⟨_, rfl, wp_ret hw⟩
  · have hw := hw.1 c3
    refine G_iload dX11_rests_269 rfl ?_
    refine G_goto (tgt := 275) dX11_rests_271 rfl ?_
    exact G_ireturn rfl dX11_rests_275 ⟨_, rfl, wp_ret hw⟩
set_option maxHeartbeats 4000000 in
set_option maxRecDepth 100000 in
theorem f_X11_rests_115_bok {Γ : GX} (hs : SF Γ) {N : Nat} {K_115 : Nat → Int32 → Int32 → Int32 → Int32 → Int32 → Int32 → Int32 → Int32 → PH → Option (Int32 × PH)} (hK_115 : ∀ (l0 : Nat) (l1 : Int32) (l2 : Int32) (l3 : Int32) (l4 : Int32) (l5 : Int32) (l6 : Int32) (l7 : Int32) (l8 : Int32) (h : PH) (Q : Int32 → PH → Prop), wp (K_115 l0 l1 l2 l3 l4 l5 l6 l7 l8 h) Q → G Γ yX11_rests cX11_rests 9 (some .int) (11, 0, 0) 115 [some (.ref l0), some (.int l1), some (.int l2), some (.int l3), some (.int l4), some (.int l5), some (.int l6), some (.int l7), some (.int l8)] [] h (0, 0) (q_i Q)) (l0 : Nat) (l1 : Int32) (l2 : Int32) (l3 : Int32) (l4 : Int32) (l5 : Int32) (l6 : Int32) (l7 : Int32) (l8 : Int32) (h : PH) (Q : Int32 → PH → Prop) (hw : wp (f_X11_rests_115_b N K_115 l0 l1 l2 l3 l4 l5 l6 l7 l8 h) Q) : G Γ yX11_rests cX11_rests 9 (some .int) (11, 0, 0) 115 [some (.ref l0), some (.int l1), some (.int l2), some (.int l3), some (.int l4), some (.int l5), some (.int l6), some (.int l7), some (.int l8)] [] h (0, 0) (q_i Q) := by
  unfold f_X11_rests_115_b at hw
  refine G_iload dX11_rests_115 rfl ?_
  refine G_bipush (v := (36 : Int32)) dX11_rests_117 (by decide) ?_
  have hw := wp_if hw
  refine G_icmp_ge (tgt := 248) dX11_rests_119 rfl (fun c1 => ?_) (fun c1 => ?_)
  · have hw := hw.1 c1
    refine G_aload_n dX11_rests_248 rfl ?_
    refine G_iload dX11_rests_249 rfl ?_
    refine G_iconst (v := (-1 : Int32)) dX11_rests_251 (by decide) ?_
    have hw := wp_if hw
    refine G_icmp_ne (tgt := 259) dX11_rests_252 rfl (fun c2 => ?_) (fun c2 => ?_)
    · have hw := hw.2 c2
      refine G_iconst (v := (1 : Int32)) dX11_rests_259 (by decide) ?_
      refine G.less [none, none, none, none, none, none, some (.int l6), some (.int l7), none] ⟨rfl, ⟨rfl, trivial⟩⟩ ?_
      exact f_X11_rests_260_ok hs _ _ _ _ h Q hw
    · have hw := hw.1 c2
      refine G_iconst (v := (0 : Int32)) dX11_rests_255 (by decide) ?_
      refine G_goto (tgt := 260) dX11_rests_256 rfl ?_
      refine G.less [none, none, none, none, none, none, some (.int l6), some (.int l7), none] ⟨rfl, ⟨rfl, trivial⟩⟩ ?_
      exact f_X11_rests_260_ok hs _ _ _ _ h Q hw
  · have hw := hw.2 c1
    refine G_aload_n dX11_rests_122 rfl ?_
    refine G_iload_n dX11_rests_123 rfl ?_
    refine G_iload dX11_rests_124 rfl ?_
    refine G_bipush (v := (6 : Int32)) dX11_rests_126 (by decide) ?_
    refine G_idiv dX11_rests_128 (by decide) ?_
    obtain ⟨c5, hw⟩ := wp_ck hw
    refine G_callV (As := [.int l1, .int (l8 / (6 : Int32))]) (s_X11_mayBurn hs l0 l1 (l8 / (6 : Int32)) h _ (wp_cl hw)) ca_X11_mayBurn w_1921 w_102 (ci := 10) rfl (by decide) w_1919 c5 (Nat.le_of_ble_eq_true rfl) (Nat.le_of_ble_eq_true rfl) rfl (Nat.le_of_ble_eq_true rfl) (Nat.le_of_ble_eq_true rfl) (Nat.le_of_ble_eq_true rfl) dX11_rests_129 rfl (fun v h4 hq => ?_)
    obtain ⟨r3, rfl, hw⟩ := hq
    refine G.cse (cs' := (0, 0)) rfl ?_
    show GZ _ _ _ _ _ _ _ 132 _ (.int r3 :: []) _ _
    have hw := wp_if hw
    refine G_if_eq (tgt := 242) dX11_rests_132 rfl (fun c6 => ?_) (fun c6 => ?_)
    · have hw := hw.1 c6
      refine G.less [some (.ref l0), some (.int l1), some (.int l2), some (.int l3), some (.int l4), some (.int l5), some (.int l6), some (.int l7), some (.int l8)] ⟨rfl, ⟨rfl, ⟨rfl, ⟨rfl, ⟨rfl, ⟨rfl, ⟨rfl, ⟨rfl, ⟨rfl, trivial⟩⟩⟩⟩⟩⟩⟩⟩⟩ ?_
      exact f_X11_rests_242_ok hs hK_115 _ _ _ _ _ _ _ _ _ h4 Q hw
    · have hw := hw.2 c6
      refine G_aload_n dX11_rests_135 rfl ?_
      refine G_iload_n dX11_rests_136 rfl ?_
      refine G_iload dX11_rests_137 rfl ?_
      refine G_bipush (v := (6 : Int32)) dX11_rests_139 (by decide) ?_
      refine G_irem dX11_rests_141 (by decide) ?_
      obtain ⟨c9, hw⟩ := wp_ck hw
      refine G_callV (As := [.int l2, .int (l8 - l8 / (6 : Int32) * (6 : Int32))]) (s_X11_mayBurn hs l0 l2 (l8 - l8 / (6 : Int32) * (6 : Int32)) h4 _ (wp_cl hw)) ca_X11_mayBurn w_1921 w_102 (ci := 10) rfl (by decide) w_1919 c9 (Nat.le_of_ble_eq_true rfl) (Nat.le_of_ble_eq_true rfl) rfl (Nat.le_of_ble_eq_true rfl) (Nat.le_of_ble_eq_true rfl) (Nat.le_of_ble_eq_true rfl) dX11_rests_142 rfl (fun v h8 hq => ?_)
      obtain ⟨r7, rfl, hw⟩ := hq
      refine G.cse (cs' := (0, 0)) rfl ?_
      show GZ _ _ _ _ _ _ _ 145 _ (.int r7 :: []) _ _
      have hw := wp_if hw
      refine G_if_ne (tgt := 151) dX11_rests_145 rfl (fun c10 => ?_) (fun c10 => ?_)
      · have hw := hw.2 c10
        refine G_aload_n dX11_rests_151 rfl ?_
        obtain ⟨c11, hw⟩ := wp_ck hw
        refine G_getR fl_X11_way w_1450 dX11_rests_152 c11 ?_
        obtain ⟨a12, ea12, hw⟩ := wp_rq hw
        refine G.sure ea12 ?_
        refine G_iload_n dX11_rests_155 rfl ?_
        refine G_iload dX11_rests_156 rfl ?_
        refine G_bipush (v := (6 : Int32)) dX11_rests_158 (by decide) ?_
        refine G_idiv dX11_rests_160 (by decide) ?_
        obtain ⟨c13, hw⟩ := wp_ck hw
        obtain ⟨c14, hw⟩ := wp_ck hw
        refine G_iastore dX11_rests_161 c13 c14 ?_
        refine G.nmh fun h15 eh15 => ?_
        have hw := wp_bd hw h15 eh15
        refine G_aload_n dX11_rests_162 rfl ?_
        obtain ⟨c16, hw⟩ := wp_ck hw
        refine G_getR fl_X11_way w_1450 dX11_rests_163 c16 ?_
        obtain ⟨a17, ea17, hw⟩ := wp_rq hw
        refine G.sure ea17 ?_
        refine G_iload_n dX11_rests_166 rfl ?_
        refine G_iload dX11_rests_167 rfl ?_
        refine G_bipush (v := (6 : Int32)) dX11_rests_169 (by decide) ?_
        refine G_irem dX11_rests_171 (by decide) ?_
        obtain ⟨c18, hw⟩ := wp_ck hw
        obtain ⟨c19, hw⟩ := wp_ck hw
        refine G_iastore dX11_rests_172 c18 c19 ?_
        refine G.nmh fun h20 eh20 => ?_
        have hw := wp_bd hw h20 eh20
        refine G_aload_n dX11_rests_173 rfl ?_
        refine G_iload_n dX11_rests_174 rfl ?_
        refine G_iload_n dX11_rests_175 rfl ?_
        refine G_iload dX11_rests_176 rfl ?_
        obtain ⟨c23, hw⟩ := wp_ck hw
        refine G_callV (As := [.int l1, .int l3, .int l5]) (s_X11_isContent hs l0 l1 l3 l5 h20 _ (wp_cl hw)) ca_X11_isContent w_2041 w_121 (ci := 10) rfl (by decide) w_2039 c23 (Nat.le_of_ble_eq_true rfl) (Nat.le_of_ble_eq_true rfl) rfl (Nat.le_of_ble_eq_true rfl) (Nat.le_of_ble_eq_true rfl) (Nat.le_of_ble_eq_true rfl) dX11_rests_178 rfl (fun v h22 hq => ?_)
        obtain ⟨r21, rfl, hw⟩ := hq
        refine G.cse (cs' := (0, 0)) rfl ?_
        show GZ _ _ _ _ _ _ _ 181 _ (.int r21 :: []) _ _
        have hw := wp_if hw
        refine G_if_eq (tgt := 242) dX11_rests_181 rfl (fun c24 => ?_) (fun c24 => ?_)
        · have hw := hw.1 c24
          refine G.less [some (.ref l0), some (.int l1), some (.int l2), some (.int l3), some (.int l4), some (.int l5), some (.int l6), some (.int l7), some (.int l8)] ⟨rfl, ⟨rfl, ⟨rfl, ⟨rfl, ⟨rfl, ⟨rfl, ⟨rfl, ⟨rfl, ⟨rfl, trivial⟩⟩⟩⟩⟩⟩⟩⟩⟩ ?_
          exact f_X11_rests_242_ok hs hK_115 _ _ _ _ _ _ _ _ _ h22 Q hw
        · have hw := hw.2 c24
          refine G_aload_n dX11_rests_184 rfl ?_
          refine G_iload_n dX11_rests_185 rfl ?_
          refine G_iload dX11_rests_186 rfl ?_
          refine G_iload dX11_rests_188 rfl ?_
          obtain ⟨c27, hw⟩ := wp_ck hw
          refine G_callV (As := [.int l2, .int l4, .int l5]) (s_X11_isContent hs l0 l2 l4 l5 h22 _ (wp_cl hw)) ca_X11_isContent w_2041 w_121 (ci := 10) rfl (by decide) w_2039 c27 (Nat.le_of_ble_eq_true rfl) (Nat.le_of_ble_eq_true rfl) rfl (Nat.le_of_ble_eq_true rfl) (Nat.le_of_ble_eq_true rfl) (Nat.le_of_ble_eq_true rfl) dX11_rests_190 rfl (fun v h26 hq => ?_)
          obtain ⟨r25, rfl, hw⟩ := hq
          refine G.cse (cs' := (0, 0)) rfl ?_
          show GZ _ _ _ _ _ _ _ 193 _ (.int r25 :: []) _ _
          have hw := wp_if hw
          refine G_if_ne (tgt := 199) dX11_rests_193 rfl (fun c28 => ?_) (fun c28 => ?_)
          · have hw := hw.2 c28
            refine G_iload dX11_rests_199 rfl ?_
            refine G_iload dX11_rests_201 rfl ?_
            have hw := wp_if hw
            refine G_icmp_ne (tgt := 239) dX11_rests_203 rfl (fun c29 => ?_) (fun c29 => ?_)
            · have hw := hw.2 c29
              obtain ⟨v30, ev30⟩ : ∃ z : Int32, z = l7 + (1 : Int32) := ⟨_, rfl⟩
              have hw := wp_bd hw v30 ev30
              refine G_iinc (v := v30) (lv' := [some (.ref l0), some (.int l1), some (.int l2), some (.int l3), some (.int l4), some (.int l5), some (.int l6), some (.int v30), some (.int l8)]) dX11_rests_239 rfl (by rw [ev30]; rfl) (Nat.le_of_ble_eq_true rfl) rfl ?_
              refine G.less [some (.ref l0), some (.int l1), some (.int l2), some (.int l3), some (.int l4), some (.int l5), some (.int l6), some (.int v30), some (.int l8)] ⟨rfl, ⟨rfl, ⟨rfl, ⟨rfl, ⟨rfl, ⟨rfl, ⟨rfl, ⟨rfl, ⟨rfl, trivial⟩⟩⟩⟩⟩⟩⟩⟩⟩ ?_
              exact f_X11_rests_242_ok hs hK_115 _ _ _ _ _ _ _ _ _ h26 Q hw
            · have hw := hw.1 c29
              refine G_bipush (v := (10 : Int32)) dX11_rests_206 (by decide) ?_
              refine G_iload dX11_rests_208 rfl ?_
              refine G_bipush (v := (6 : Int32)) dX11_rests_210 (by decide) ?_
              refine G_idiv dX11_rests_212 (by decide) ?_
              refine G_aload_n dX11_rests_213 rfl ?_
              obtain ⟨c31, hw⟩ := wp_ck hw
              refine G_getR fl_X11_valley w_1403 dX11_rests_214 c31 ?_
              obtain ⟨a32, ea32, hw⟩ := wp_rq hw
              refine G.sure ea32 ?_
              refine G_iconst (v := (0 : Int32)) dX11_rests_217 (by decide) ?_
              obtain ⟨c33, hw⟩ := wp_ck hw
              obtain ⟨c34, hw⟩ := wp_ck hw
              refine G_ialoadK (k := 0) dX11_rests_218 c33 (by decide) rfl c34 ?_
              refine G_mmin w_1835 w_642 w_139 w_643 dX11_rests_219 (Nat.le_of_ble_eq_true rfl) (Nat.le_of_ble_eq_true rfl) (Nat.le_of_ble_eq_true rfl) (Nat.le_of_ble_eq_true rfl) ?_
              refine G_imul dX11_rests_222 ?_
              refine G_iload dX11_rests_223 rfl ?_
              refine G_bipush (v := (6 : Int32)) dX11_rests_225 (by decide) ?_
              refine G_irem dX11_rests_227 (by decide) ?_
              refine G_aload_n dX11_rests_228 rfl ?_
              refine G_getR fl_X11_valley w_1403 dX11_rests_229 c31 ?_
              obtain ⟨a35, ea35, hw⟩ := wp_rq hw
              refine G.sure ea35 ?_
              refine G_iconst (v := (0 : Int32)) dX11_rests_232 (by decide) ?_
              obtain ⟨c36, hw⟩ := wp_ck hw
              obtain ⟨c37, hw⟩ := wp_ck hw
              refine G_ialoadK (k := 0) dX11_rests_233 c36 (by decide) rfl c37 ?_
              refine G_mmin w_1835 w_642 w_139 w_643 dX11_rests_234 (Nat.le_of_ble_eq_true rfl) (Nat.le_of_ble_eq_true rfl) (Nat.le_of_ble_eq_true rfl) (Nat.le_of_ble_eq_true rfl) ?_
              refine G_iadd dX11_rests_237 ?_
              exact G_ireturn rfl dX11_rests_238 ⟨_, rfl, wp_ret hw⟩
          · have hw := hw.1 c28
            refine G_goto (tgt := 242) dX11_rests_196 rfl ?_
            refine G.less [some (.ref l0), some (.int l1), some (.int l2), some (.int l3), some (.int l4), some (.int l5), some (.int l6), some (.int l7), some (.int l8)] ⟨rfl, ⟨rfl, ⟨rfl, ⟨rfl, ⟨rfl, ⟨rfl, ⟨rfl, ⟨rfl, ⟨rfl, trivial⟩⟩⟩⟩⟩⟩⟩⟩⟩ ?_
            exact f_X11_rests_242_ok hs hK_115 _ _ _ _ _ _ _ _ _ h26 Q hw
      · have hw := hw.1 c10
        refine G_goto (tgt := 242) dX11_rests_148 rfl ?_
        refine G.less [some (.ref l0), some (.int l1), some (.int l2), some (.int l3), some (.int l4), some (.int l5), some (.int l6), some (.int l7), some (.int l8)] ⟨rfl, ⟨rfl, ⟨rfl, ⟨rfl, ⟨rfl, ⟨rfl, ⟨rfl, ⟨rfl, ⟨rfl, trivial⟩⟩⟩⟩⟩⟩⟩⟩⟩ ?_
        exact f_X11_rests_242_ok hs hK_115 _ _ _ _ _ _ _ _ _ h8 Q hw
theorem f_X11_rests_115_ok {Γ : GX} (hs : SF Γ) {N : Nat} : ∀ (n : Nat) (l0 : Nat) (l1 : Int32) (l2 : Int32) (l3 : Int32) (l4 : Int32) (l5 : Int32) (l6 : Int32) (l7 : Int32) (l8 : Int32) (h : PH) (Q : Int32 → PH → Prop), wp (f_X11_rests_115 N n l0 l1 l2 l3 l4 l5 l6 l7 l8 h) Q → G Γ yX11_rests cX11_rests 9 (some .int) (11, 0, 0) 115 [some (.ref l0), some (.int l1), some (.int l2), some (.int l3), some (.int l4), some (.int l5), some (.int l6), some (.int l7), some (.int l8)] [] h (0, 0) (q_i Q)
  | 0, _, _, _, _, _, _, _, _, _, _, Q, hw => (wp_no hw).elim
  | n + 1, l0, l1, l2, l3, l4, l5, l6, l7, l8, h, Q, hw => f_X11_rests_115_bok (N := N) hs (f_X11_rests_115_ok (N := N) hs n) l0 l1 l2 l3 l4 l5 l6 l7 l8 h Q hw
set_option maxHeartbeats 4000000 in
set_option maxRecDepth 100000 in
theorem f_X11_rests_92_ok {Γ : GX} (hs : SF Γ) {N : Nat} (s0 : Int32) (s1 : Nat) (l0 : Nat) (l1 : Int32) (l2 : Int32) (l3 : Int32) (l4 : Int32) (l5 : Int32) (l6 : Int32) (h : PH) (Q : Int32 → PH → Prop) (hw : wp (f_X11_rests_92 N s0 s1 l0 l1 l2 l3 l4 l5 l6 h) Q) : G Γ yX11_rests cX11_rests 9 (some .int) (11, 0, 0) 92 [some (.ref l0), some (.int l1), some (.int l2), some (.int l3), some (.int l4), some (.int l5), some (.int l6), none, none] [.int s0, .ref s1] h (0, 0) (q_i Q) := by
  unfold f_X11_rests_92 at hw
  obtain ⟨c1, hw⟩ := wp_ck hw
  refine G_putI fl_X11_thrown w_1393 dX11_rests_92 c1 ?_
  refine G.nmh fun h2 eh2 => ?_
  have hw := wp_bd hw h2 eh2
  refine G_aload_n dX11_rests_95 rfl ?_
  obtain ⟨c3, hw⟩ := wp_ck hw
  refine G_getI fl_X11_thrown w_1393 dX11_rests_96 c3 ?_
  refine G_iconst (v := (1 : Int32)) dX11_rests_99 (by decide) ?_
  have hw := wp_if hw
  refine G_icmp_ne (tgt := 105) dX11_rests_100 rfl (fun c4 => ?_) (fun c4 => ?_)
  · have hw := hw.2 c4
    refine G_iconst (v := (0 : Int32)) dX11_rests_105 (by decide) ?_
    refine G_istore (lv' := [some (.ref l0), some (.int l1), some (.int l2), some (.int l3), some (.int l4), some (.int l5), some (.int l6), some (.int (0 : Int32)), none]) dX11_rests_106 (Nat.le_of_ble_eq_true rfl) rfl ?_
    refine G_aload_n dX11_rests_108 rfl ?_
    refine G_callV (As := []) (s_X11_noneBurns hs l0 h2 _ (wp_cl hw)) ca_X11_noneBurns w_2037 w_120 (ci := 10) rfl (by decide) w_2035 c3 (Nat.le_of_ble_eq_true rfl) (Nat.le_of_ble_eq_true rfl) rfl (Nat.le_of_ble_eq_true rfl) (Nat.le_of_ble_eq_true rfl) (Nat.le_of_ble_eq_true rfl) dX11_rests_109 rfl (fun v h6 hq => ?_)
    obtain ⟨rfl, hw⟩ := hq
    refine G.cse (cs' := (0, 0)) rfl ?_
    show GZ _ _ _ _ _ _ _ 112 _ [] _ _
    refine G_iconst (v := (0 : Int32)) dX11_rests_112 (by decide) ?_
    refine G_istore (lv' := [some (.ref l0), some (.int l1), some (.int l2), some (.int l3), some (.int l4), some (.int l5), some (.int l6), some (.int (0 : Int32)), some (.int (0 : Int32))]) dX11_rests_113 (Nat.le_of_ble_eq_true rfl) rfl ?_
    refine G.less [some (.ref l0), some (.int l1), some (.int l2), some (.int l3), some (.int l4), some (.int l5), some (.int l6), some (.int (0 : Int32)), some (.int (0 : Int32))] ⟨rfl, ⟨rfl, ⟨rfl, ⟨rfl, ⟨rfl, ⟨rfl, ⟨rfl, ⟨rfl, ⟨rfl, trivial⟩⟩⟩⟩⟩⟩⟩⟩⟩ ?_
    exact f_X11_rests_115_ok hs N _ _ _ _ _ _ _ _ _ h6 Q hw
  · have hw := hw.1 c4
    refine G_iconst (v := (0 : Int32)) dX11_rests_103 (by decide) ?_
    exact G_ireturn rfl dX11_rests_104 ⟨_, rfl, wp_ret hw⟩
set_option maxHeartbeats 4000000 in
set_option maxRecDepth 100000 in
theorem f_X11_rests_91_ok {Γ : GX} (hs : SF Γ) {N : Nat} (s0 : Nat) (l0 : Nat) (l1 : Int32) (l2 : Int32) (l3 : Int32) (l4 : Int32) (l5 : Int32) (l6 : Int32) (h : PH) (Q : Int32 → PH → Prop) (hw : wp (f_X11_rests_91 N s0 l0 l1 l2 l3 l4 l5 l6 h) Q) : G Γ yX11_rests cX11_rests 9 (some .int) (11, 0, 0) 91 [some (.ref l0), some (.int l1), some (.int l2), some (.int l3), some (.int l4), some (.int l5), some (.int l6), none, none] [.ref s0] h (0, 0) (q_i Q) := by
  unfold f_X11_rests_91 at hw
  refine G_iconst (v := (1 : Int32)) dX11_rests_91 (by decide) ?_
  refine G.less [some (.ref l0), some (.int l1), some (.int l2), some (.int l3), some (.int l4), some (.int l5), some (.int l6), none, none] ⟨rfl, ⟨rfl, ⟨rfl, ⟨rfl, ⟨rfl, ⟨rfl, ⟨rfl, trivial⟩⟩⟩⟩⟩⟩⟩ ?_
  exact f_X11_rests_92_ok hs _ _ _ _ _ _ _ _ _ h Q hw
set_option maxHeartbeats 4000000 in
set_option maxRecDepth 100000 in
theorem s_X11_rests {Γ : GX} (hs : SF Γ) {N : Nat} (l0 : Nat) (l1 : Int32) (l2 : Int32) (l3 : Int32) (l4 : Int32) (l5 : Int32) (l6 : Int32) (h : PH) (Q : Int32 → PH → Prop) (hw : wp (f_X11_rests N l0 l1 l2 l3 l4 l5 l6 h) Q) : Spec Γ yX11_rests cX11_rests 9 (some .int) (11, 0, 0) [.ref l0, .int l1, .int l2, .int l3, .int l4, .int l5, .int l6] h (q_i Q) := by
  refine Spec.of (by decide) (Nat.le_of_ble_eq_true rfl) [some (.ref l0), some (.int l1), some (.int l2), some (.int l3), some (.int l4), some (.int l5), some (.int l6), none, none] rfl ?_
  unfold f_X11_rests at hw
  refine G_aload_n dX11_rests_0 rfl ?_
  refine G_aload_n dX11_rests_1 rfl ?_
  refine G_iload_n dX11_rests_2 rfl ?_
  obtain ⟨c3, hw⟩ := wp_ck hw
  refine G_callV (As := [.int l1]) (s_X11_isHouse hs l0 l1 h _ (wp_cl hw)) ca_X11_isHouse w_1786 w_77 (ci := 10) rfl (by decide) w_1784 c3 (Nat.le_of_ble_eq_true rfl) (Nat.le_of_ble_eq_true rfl) rfl (Nat.le_of_ble_eq_true rfl) (Nat.le_of_ble_eq_true rfl) (Nat.le_of_ble_eq_true rfl) dX11_rests_3 rfl (fun v h2 hq => ?_)
  obtain ⟨r1, rfl, hw⟩ := hq
  refine G.cse (cs' := (0, 0)) rfl ?_
  show GZ _ _ _ _ _ _ _ 6 _ (.int r1 :: [.ref l0]) _ _
  have hw := wp_if hw
  refine G_if_eq (tgt := 91) dX11_rests_6 rfl (fun c4 => ?_) (fun c4 => ?_)
  · have hw := hw.1 c4
    refine G.less [some (.ref l0), some (.int l1), some (.int l2), some (.int l3), some (.int l4), some (.int l5), some (.int l6), none, none] ⟨rfl, ⟨rfl, ⟨rfl, ⟨rfl, ⟨rfl, ⟨rfl, ⟨rfl, trivial⟩⟩⟩⟩⟩⟩⟩ ?_
    exact f_X11_rests_91_ok hs _ _ _ _ _ _ _ _ h2 Q hw
  · have hw := hw.2 c4
    refine G_aload_n dX11_rests_9 rfl ?_
    refine G_iload_n dX11_rests_10 rfl ?_
    obtain ⟨c7, hw⟩ := wp_ck hw
    refine G_callV (As := [.int l2]) (s_X11_isHouse hs l0 l2 h2 _ (wp_cl hw)) ca_X11_isHouse w_1786 w_77 (ci := 10) rfl (by decide) w_1784 c7 (Nat.le_of_ble_eq_true rfl) (Nat.le_of_ble_eq_true rfl) rfl (Nat.le_of_ble_eq_true rfl) (Nat.le_of_ble_eq_true rfl) (Nat.le_of_ble_eq_true rfl) dX11_rests_11 rfl (fun v h6 hq => ?_)
    obtain ⟨r5, rfl, hw⟩ := hq
    refine G.cse (cs' := (0, 0)) rfl ?_
    show GZ _ _ _ _ _ _ _ 14 _ (.int r5 :: [.ref l0]) _ _
    have hw := wp_if hw
    refine G_if_eq (tgt := 91) dX11_rests_14 rfl (fun c8 => ?_) (fun c8 => ?_)
    · have hw := hw.1 c8
      refine G.less [some (.ref l0), some (.int l1), some (.int l2), some (.int l3), some (.int l4), some (.int l5), some (.int l6), none, none] ⟨rfl, ⟨rfl, ⟨rfl, ⟨rfl, ⟨rfl, ⟨rfl, ⟨rfl, trivial⟩⟩⟩⟩⟩⟩⟩ ?_
      exact f_X11_rests_91_ok hs _ _ _ _ _ _ _ _ h6 Q hw
    · have hw := hw.2 c8
      refine G_iload_n dX11_rests_17 rfl ?_
      refine G_iload_n dX11_rests_18 rfl ?_
      have hw := wp_if hw
      refine G_icmp_eq (tgt := 91) dX11_rests_19 rfl (fun c9 => ?_) (fun c9 => ?_)
      · have hw := hw.1 c9
        refine G.less [some (.ref l0), some (.int l1), some (.int l2), some (.int l3), some (.int l4), some (.int l5), some (.int l6), none, none] ⟨rfl, ⟨rfl, ⟨rfl, ⟨rfl, ⟨rfl, ⟨rfl, ⟨rfl, trivial⟩⟩⟩⟩⟩⟩⟩ ?_
        exact f_X11_rests_91_ok hs _ _ _ _ _ _ _ _ h6 Q hw
      · have hw := hw.2 c9
        refine G_aload_n dX11_rests_22 rfl ?_
        obtain ⟨c10, hw⟩ := wp_ck hw
        refine G_getR fl_X11_houseAt w_1408 dX11_rests_23 c10 ?_
        obtain ⟨a11, ea11, hw⟩ := wp_rq hw
        refine G.sure ea11 ?_
        refine G_iload_n dX11_rests_26 rfl ?_
        obtain ⟨c12, hw⟩ := wp_ck hw
        obtain ⟨c13, hw⟩ := wp_ck hw
        refine G_iaload dX11_rests_27 c12 c13 ?_
        refine G_aload_n dX11_rests_28 rfl ?_
        refine G_getR fl_X11_houseAt w_1408 dX11_rests_29 c10 ?_
        obtain ⟨a14, ea14, hw⟩ := wp_rq hw
        refine G.sure ea14 ?_
        refine G_iload_n dX11_rests_32 rfl ?_
        obtain ⟨c15, hw⟩ := wp_ck hw
        obtain ⟨c16, hw⟩ := wp_ck hw
        refine G_iaload dX11_rests_33 c15 c16 ?_
        have hw := wp_if hw
        refine G_icmp_ne (tgt := 91) dX11_rests_34 rfl (fun c17 => ?_) (fun c17 => ?_)
        · have hw := hw.2 c17
          refine G.less [some (.ref l0), some (.int l1), some (.int l2), some (.int l3), some (.int l4), some (.int l5), some (.int l6), none, none] ⟨rfl, ⟨rfl, ⟨rfl, ⟨rfl, ⟨rfl, ⟨rfl, ⟨rfl, trivial⟩⟩⟩⟩⟩⟩⟩ ?_
          exact f_X11_rests_91_ok hs _ _ _ _ _ _ _ _ h6 Q hw
        · have hw := hw.1 c17
          refine G_aload_n dX11_rests_37 rfl ?_
          refine G_iload_n dX11_rests_38 rfl ?_
          refine G_callV (As := [.int l1]) (s_X11_isFire hs l0 l1 h6 _ (wp_cl hw)) ca_X11_isFire w_1806 w_81 (ci := 10) rfl (by decide) w_1804 c10 (Nat.le_of_ble_eq_true rfl) (Nat.le_of_ble_eq_true rfl) rfl (Nat.le_of_ble_eq_true rfl) (Nat.le_of_ble_eq_true rfl) (Nat.le_of_ble_eq_true rfl) dX11_rests_39 rfl (fun v h19 hq => ?_)
          obtain ⟨r18, rfl, hw⟩ := hq
          refine G.cse (cs' := (0, 0)) rfl ?_
          show GZ _ _ _ _ _ _ _ 42 _ (.int r18 :: [.ref l0]) _ _
          have hw := wp_if hw
          refine G_if_ne (tgt := 91) dX11_rests_42 rfl (fun c20 => ?_) (fun c20 => ?_)
          · have hw := hw.2 c20
            refine G.less [some (.ref l0), some (.int l1), some (.int l2), some (.int l3), some (.int l4), some (.int l5), some (.int l6), none, none] ⟨rfl, ⟨rfl, ⟨rfl, ⟨rfl, ⟨rfl, ⟨rfl, ⟨rfl, trivial⟩⟩⟩⟩⟩⟩⟩ ?_
            exact f_X11_rests_91_ok hs _ _ _ _ _ _ _ _ h19 Q hw
          · have hw := hw.1 c20
            refine G_aload_n dX11_rests_45 rfl ?_
            refine G_iload_n dX11_rests_46 rfl ?_
            obtain ⟨c23, hw⟩ := wp_ck hw
            refine G_callV (As := [.int l2]) (s_X11_isFire hs l0 l2 h19 _ (wp_cl hw)) ca_X11_isFire w_1806 w_81 (ci := 10) rfl (by decide) w_1804 c23 (Nat.le_of_ble_eq_true rfl) (Nat.le_of_ble_eq_true rfl) rfl (Nat.le_of_ble_eq_true rfl) (Nat.le_of_ble_eq_true rfl) (Nat.le_of_ble_eq_true rfl) dX11_rests_47 rfl (fun v h22 hq => ?_)
            obtain ⟨r21, rfl, hw⟩ := hq
            refine G.cse (cs' := (0, 0)) rfl ?_
            show GZ _ _ _ _ _ _ _ 50 _ (.int r21 :: [.ref l0]) _ _
            have hw := wp_if hw
            refine G_if_ne (tgt := 91) dX11_rests_50 rfl (fun c24 => ?_) (fun c24 => ?_)
            · have hw := hw.2 c24
              refine G.less [some (.ref l0), some (.int l1), some (.int l2), some (.int l3), some (.int l4), some (.int l5), some (.int l6), none, none] ⟨rfl, ⟨rfl, ⟨rfl, ⟨rfl, ⟨rfl, ⟨rfl, ⟨rfl, trivial⟩⟩⟩⟩⟩⟩⟩ ?_
              exact f_X11_rests_91_ok hs _ _ _ _ _ _ _ _ h22 Q hw
            · have hw := hw.1 c24
              refine G_aload_n dX11_rests_53 rfl ?_
              refine G_iload_n dX11_rests_54 rfl ?_
              obtain ⟨c27, hw⟩ := wp_ck hw
              refine G_callV (As := [.int l3]) (s_X11_isTold hs l0 l3 h22 _ (wp_cl hw)) ca_X11_isTold w_1957 w_110 (ci := 10) rfl (by decide) w_1955 c27 (Nat.le_of_ble_eq_true rfl) (Nat.le_of_ble_eq_true rfl) rfl (Nat.le_of_ble_eq_true rfl) (Nat.le_of_ble_eq_true rfl) (Nat.le_of_ble_eq_true rfl) dX11_rests_55 rfl (fun v h26 hq => ?_)
              obtain ⟨r25, rfl, hw⟩ := hq
              refine G.cse (cs' := (0, 0)) rfl ?_
              show GZ _ _ _ _ _ _ _ 58 _ (.int r25 :: [.ref l0]) _ _
              have hw := wp_if hw
              refine G_if_eq (tgt := 91) dX11_rests_58 rfl (fun c28 => ?_) (fun c28 => ?_)
              · have hw := hw.1 c28
                refine G.less [some (.ref l0), some (.int l1), some (.int l2), some (.int l3), some (.int l4), some (.int l5), some (.int l6), none, none] ⟨rfl, ⟨rfl, ⟨rfl, ⟨rfl, ⟨rfl, ⟨rfl, ⟨rfl, trivial⟩⟩⟩⟩⟩⟩⟩ ?_
                exact f_X11_rests_91_ok hs _ _ _ _ _ _ _ _ h26 Q hw
              · have hw := hw.2 c28
                refine G_aload_n dX11_rests_61 rfl ?_
                refine G_iload dX11_rests_62 rfl ?_
                obtain ⟨c31, hw⟩ := wp_ck hw
                refine G_callV (As := [.int l4]) (s_X11_isTold hs l0 l4 h26 _ (wp_cl hw)) ca_X11_isTold w_1957 w_110 (ci := 10) rfl (by decide) w_1955 c31 (Nat.le_of_ble_eq_true rfl) (Nat.le_of_ble_eq_true rfl) rfl (Nat.le_of_ble_eq_true rfl) (Nat.le_of_ble_eq_true rfl) (Nat.le_of_ble_eq_true rfl) dX11_rests_64 rfl (fun v h30 hq => ?_)
                obtain ⟨r29, rfl, hw⟩ := hq
                refine G.cse (cs' := (0, 0)) rfl ?_
                show GZ _ _ _ _ _ _ _ 67 _ (.int r29 :: [.ref l0]) _ _
                have hw := wp_if hw
                refine G_if_eq (tgt := 91) dX11_rests_67 rfl (fun c32 => ?_) (fun c32 => ?_)
                · have hw := hw.1 c32
                  refine G.less [some (.ref l0), some (.int l1), some (.int l2), some (.int l3), some (.int l4), some (.int l5), some (.int l6), none, none] ⟨rfl, ⟨rfl, ⟨rfl, ⟨rfl, ⟨rfl, ⟨rfl, ⟨rfl, trivial⟩⟩⟩⟩⟩⟩⟩ ?_
                  exact f_X11_rests_91_ok hs _ _ _ _ _ _ _ _ h30 Q hw
                · have hw := hw.2 c32
                  refine G_iload dX11_rests_70 rfl ?_
                  refine G_iconst (v := (0 : Int32)) dX11_rests_72 (by decide) ?_
                  refine G_bipush (v := (99 : Int32)) dX11_rests_73 (by decide) ?_
                  refine G_callS (As := [.int l5, .int (0 : Int32), .int (99 : Int32)]) (s_X11_within hs l5 (0 : Int32) (99 : Int32) h30 _ (wp_cl hw)) ca_X11_within w_1686 w_1685 (Nat.le_of_ble_eq_true rfl) (Nat.le_of_ble_eq_true rfl) rfl (Nat.le_of_ble_eq_true rfl) (Nat.le_of_ble_eq_true rfl) (Nat.le_of_ble_eq_true rfl) dX11_rests_75 rfl (fun v h34 hq => ?_)
                  obtain ⟨r33, rfl, hw⟩ := hq
                  refine G.cse (cs' := (0, 0)) rfl ?_
                  show GZ _ _ _ _ _ _ _ 78 _ (.int r33 :: [.ref l0]) _ _
                  have hw := wp_if hw
                  refine G_if_eq (tgt := 91) dX11_rests_78 rfl (fun c35 => ?_) (fun c35 => ?_)
                  · have hw := hw.1 c35
                    refine G.less [some (.ref l0), some (.int l1), some (.int l2), some (.int l3), some (.int l4), some (.int l5), some (.int l6), none, none] ⟨rfl, ⟨rfl, ⟨rfl, ⟨rfl, ⟨rfl, ⟨rfl, ⟨rfl, trivial⟩⟩⟩⟩⟩⟩⟩ ?_
                    exact f_X11_rests_91_ok hs _ _ _ _ _ _ _ _ h34 Q hw
                  · have hw := hw.2 c35
                    refine G_iload dX11_rests_81 rfl ?_
                    refine G_iconst (v := (-1 : Int32)) dX11_rests_83 (by decide) ?_
                    have hw := wp_if hw
                    refine G_icmp_lt (tgt := 91) dX11_rests_84 rfl (fun c36 => ?_) (fun c36 => ?_)
                    · have hw := hw.1 c36
                      refine G.less [some (.ref l0), some (.int l1), some (.int l2), some (.int l3), some (.int l4), some (.int l5), some (.int l6), none, none] ⟨rfl, ⟨rfl, ⟨rfl, ⟨rfl, ⟨rfl, ⟨rfl, ⟨rfl, trivial⟩⟩⟩⟩⟩⟩⟩ ?_
                      exact f_X11_rests_91_ok hs _ _ _ _ _ _ _ _ h34 Q hw
                    · have hw := hw.2 c36
                      refine G_iconst (v := (0 : Int32)) dX11_rests_87 (by decide) ?_
                      refine G_goto (tgt := 92) dX11_rests_88 rfl ?_
                      refine G.less [some (.ref l0), some (.int l1), some (.int l2), some (.int l3), some (.int l4), some (.int l5), some (.int l6), none, none] ⟨rfl, ⟨rfl, ⟨rfl, ⟨rfl, ⟨rfl, ⟨rfl, ⟨rfl, trivial⟩⟩⟩⟩⟩⟩⟩ ?_
                      exact f_X11_rests_92_ok hs _ _ _ _ _ _ _ _ _ h34 Q hw
set_option maxHeartbeats 4000000 in
set_option maxRecDepth 100000 in
theorem s_X11_draws {Γ : GX} (hs : SF Γ) {N : Nat} (l0 : Nat) (l1 : Int32) (h : PH) (Q : Int32 → PH → Prop) (hw : wp (f_X11_draws N l0 l1 h) Q) : Spec Γ yX11_draws cX11_draws 2 (some .int) (1, 0, 0) [.ref l0, .int l1] h (q_i Q) := by
  refine Spec.of (by decide) (Nat.le_of_ble_eq_true rfl) [some (.ref l0), some (.int l1)] rfl ?_
  unfold f_X11_draws at hw
  refine G_aload_n dX11_draws_0 rfl ?_
  refine G_aload_n dX11_draws_1 rfl ?_
  obtain ⟨c1, hw⟩ := wp_ck hw
  refine G_getJ fl_X11_g w_1458 dX11_draws_2 c1 ?_
  refine G_ldc2 (v := (1103515245 : Int64)) dX11_draws_5 w_2055 ?_
  refine G_lmul dX11_draws_8 ?_
  refine G_ldc2 (v := (12345 : Int64)) dX11_draws_9 w_2056 ?_
  refine G_ladd dX11_draws_12 ?_
  refine G_ldc2 (v := (2147483648 : Int64)) dX11_draws_13 w_2057 ?_
  refine G_lrem dX11_draws_16 (by decide) ?_
  refine G_putJ fl_X11_g w_1458 dX11_draws_17 c1 ?_
  refine G.nmh fun h2 eh2 => ?_
  have hw := wp_bd hw h2 eh2
  refine G_aload_n dX11_draws_20 rfl ?_
  obtain ⟨c3, hw⟩ := wp_ck hw
  refine G_getJ fl_X11_g w_1458 dX11_draws_21 c3 ?_
  refine G_ldc2 (v := (65536 : Int64)) dX11_draws_24 w_2058 ?_
  refine G_ldiv dX11_draws_27 (by decide) ?_
  refine G_iload_n dX11_draws_28 rfl ?_
  refine G_i2l dX11_draws_29 ?_
  obtain ⟨c4, hw⟩ := wp_ck hw
  refine G_lrem dX11_draws_30 c4 ?_
  refine G_l2i dX11_draws_31 ?_
  exact G_ireturn rfl dX11_draws_32 ⟨_, rfl, wp_ret hw⟩
set_option maxHeartbeats 4000000 in
set_option maxRecDepth 100000 in
theorem f_X11_stocks_4_bok {Γ : GX} (hs : SF Γ) {N : Nat} {K_4 : Nat → Int32 → Int32 → PH → Option (Int32 × PH)} (hK_4 : ∀ (l0 : Nat) (l1 : Int32) (l2 : Int32) (h : PH) (Q : Int32 → PH → Prop), wp (K_4 l0 l1 l2 h) Q → G Γ yX11_stocks cX11_stocks 3 (some .int) (1, 0, 0) 4 [some (.ref l0), some (.int l1), some (.int l2)] [] h (0, 0) (q_i Q)) (l0 : Nat) (l1 : Int32) (l2 : Int32) (h : PH) (Q : Int32 → PH → Prop) (hw : wp (f_X11_stocks_4_b N K_4 l0 l1 l2 h) Q) : G Γ yX11_stocks cX11_stocks 3 (some .int) (1, 0, 0) 4 [some (.ref l0), some (.int l1), some (.int l2)] [] h (0, 0) (q_i Q) := by
  unfold f_X11_stocks_4_b at hw
  refine G_iload_n dX11_stocks_4 rfl ?_
  refine G_bipush (v := (20 : Int32)) dX11_stocks_5 (by decide) ?_
  have hw := wp_if hw
  refine G_icmp_ge (tgt := 28) dX11_stocks_7 rfl (fun c1 => ?_) (fun c1 => ?_)
  · have hw := hw.1 c1
    refine G_iload_n dX11_stocks_28 rfl ?_
    exact G_ireturn rfl dX11_stocks_29 ⟨_, rfl, wp_ret hw⟩
  · have hw := hw.2 c1
    refine G_iload_n dX11_stocks_10 rfl ?_
    refine G_aload_n dX11_stocks_11 rfl ?_
    obtain ⟨c2, hw⟩ := wp_ck hw
    refine G_getR fl_X11_s w_1442 dX11_stocks_12 c2 ?_
    obtain ⟨a3, ea3, hw⟩ := wp_rq hw
    refine G.sure ea3 ?_
    refine G_bipush (v := (9 : Int32)) dX11_stocks_15 (by decide) ?_
    refine G_iload_n dX11_stocks_17 rfl ?_
    refine G_iadd dX11_stocks_18 ?_
    obtain ⟨c4, hw⟩ := wp_ck hw
    obtain ⟨c5, hw⟩ := wp_ck hw
    refine G_iaload dX11_stocks_19 c4 c5 ?_
    refine G_iadd dX11_stocks_20 ?_
    refine G.topi fun v6 ev6 => ?_
    have hw := wp_bd hw v6 ev6
    refine G_istore_n (lv' := [some (.ref l0), some (.int v6), some (.int l2)]) dX11_stocks_21 (Nat.le_of_ble_eq_true rfl) rfl ?_
    obtain ⟨v7, ev7⟩ : ∃ z : Int32, z = l2 + (1 : Int32) := ⟨_, rfl⟩
    have hw := wp_bd hw v7 ev7
    refine G_iinc (v := v7) (lv' := [some (.ref l0), some (.int v6), some (.int v7)]) dX11_stocks_22 rfl (by rw [ev7]; rfl) (Nat.le_of_ble_eq_true rfl) rfl ?_
    refine G_goto (tgt := 4) dX11_stocks_25 rfl ?_
    refine G.less [some (.ref l0), some (.int v6), some (.int v7)] ⟨rfl, ⟨rfl, ⟨rfl, trivial⟩⟩⟩ ?_
    exact hK_4 _ _ _ h Q hw
theorem f_X11_stocks_4_ok {Γ : GX} (hs : SF Γ) {N : Nat} : ∀ (n : Nat) (l0 : Nat) (l1 : Int32) (l2 : Int32) (h : PH) (Q : Int32 → PH → Prop), wp (f_X11_stocks_4 N n l0 l1 l2 h) Q → G Γ yX11_stocks cX11_stocks 3 (some .int) (1, 0, 0) 4 [some (.ref l0), some (.int l1), some (.int l2)] [] h (0, 0) (q_i Q)
  | 0, _, _, _, _, Q, hw => (wp_no hw).elim
  | n + 1, l0, l1, l2, h, Q, hw => f_X11_stocks_4_bok (N := N) hs (f_X11_stocks_4_ok (N := N) hs n) l0 l1 l2 h Q hw
set_option maxHeartbeats 4000000 in
set_option maxRecDepth 100000 in
theorem s_X11_stocks {Γ : GX} (hs : SF Γ) {N : Nat} (l0 : Nat) (h : PH) (Q : Int32 → PH → Prop) (hw : wp (f_X11_stocks N l0 h) Q) : Spec Γ yX11_stocks cX11_stocks 3 (some .int) (1, 0, 0) [.ref l0] h (q_i Q) := by
  refine Spec.of (by decide) (Nat.le_of_ble_eq_true rfl) [some (.ref l0), none, none] rfl ?_
  unfold f_X11_stocks at hw
  refine G_iconst (v := (0 : Int32)) dX11_stocks_0 (by decide) ?_
  refine G_istore_n (lv' := [some (.ref l0), some (.int (0 : Int32)), none]) dX11_stocks_1 (Nat.le_of_ble_eq_true rfl) rfl ?_
  refine G_iconst (v := (0 : Int32)) dX11_stocks_2 (by decide) ?_
  refine G_istore_n (lv' := [some (.ref l0), some (.int (0 : Int32)), some (.int (0 : Int32))]) dX11_stocks_3 (Nat.le_of_ble_eq_true rfl) rfl ?_
  refine G.less [some (.ref l0), some (.int (0 : Int32)), some (.int (0 : Int32))] ⟨rfl, ⟨rfl, ⟨rfl, trivial⟩⟩⟩ ?_
  exact f_X11_stocks_4_ok hs N _ _ _ h Q hw
set_option maxHeartbeats 4000000 in
set_option maxRecDepth 100000 in
theorem f_X11_years_136_ok {Γ : GX} (hs : SF Γ) {N : Nat} {K_65 : Nat → Int32 → Int32 → Int32 → Int32 → Int32 → PH → Option (Int32 × PH)} {K_74 : Nat → Int32 → Int32 → Int32 → Int32 → Int32 → Int32 → PH → Option (Int32 × PH)} (hK_65 : ∀ (l0 : Nat) (l2 : Int32) (l3 : Int32) (l4 : Int32) (l5 : Int32) (l6 : Int32) (h : PH) (Q : Int32 → PH → Prop), wp (K_65 l0 l2 l3 l4 l5 l6 h) Q → G Γ yX11_years cX11_years 9 (some .int) (8, 0, 0) 65 [some (.ref l0), none, some (.int l2), some (.int l3), some (.int l4), some (.int l5), some (.int l6), none, none] [] h (0, 0) (q_i Q)) (hK_74 : ∀ (l0 : Nat) (l2 : Int32) (l3 : Int32) (l4 : Int32) (l5 : Int32) (l6 : Int32) (l7 : Int32) (h : PH) (Q : Int32 → PH → Prop), wp (K_74 l0 l2 l3 l4 l5 l6 l7 h) Q → G Γ yX11_years cX11_years 9 (some .int) (8, 0, 0) 74 [some (.ref l0), none, some (.int l2), some (.int l3), some (.int l4), some (.int l5), some (.int l6), some (.int l7), none] [] h (0, 0) (q_i Q)) (l0 : Nat) (l2 : Int32) (l3 : Int32) (l4 : Int32) (l5 : Int32) (l6 : Int32) (l7 : Int32) (h : PH) (Q : Int32 → PH → Prop) (hw : wp (f_X11_years_136 N K_65 K_74 l0 l2 l3 l4 l5 l6 l7 h) Q) : G Γ yX11_years cX11_years 9 (some .int) (8, 0, 0) 136 [some (.ref l0), none, some (.int l2), some (.int l3), some (.int l4), some (.int l5), some (.int l6), some (.int l7), none] [] h (0, 0) (q_i Q) := by
  unfold f_X11_years_136 at hw
  obtain ⟨v1, ev1⟩ : ∃ z : Int32, z = l7 + (1 : Int32) := ⟨_, rfl⟩
  have hw := wp_bd hw v1 ev1
  refine G_iinc (v := v1) (lv' := [some (.ref l0), none, some (.int l2), some (.int l3), some (.int l4), some (.int l5), some (.int l6), some (.int v1), none]) dX11_years_136 rfl (by rw [ev1]; rfl) (Nat.le_of_ble_eq_true rfl) rfl ?_
  refine G_goto (tgt := 74) dX11_years_139 rfl ?_
  refine G.less [some (.ref l0), none, some (.int l2), some (.int l3), some (.int l4), some (.int l5), some (.int l6), some (.int v1), none] ⟨rfl, ⟨rfl, ⟨rfl, ⟨rfl, ⟨rfl, ⟨rfl, ⟨rfl, trivial⟩⟩⟩⟩⟩⟩⟩ ?_
  exact hK_74 _ _ _ _ _ _ _ h Q hw
set_option maxHeartbeats 4000000 in
set_option maxRecDepth 100000 in
theorem f_X11_years_142_ok {Γ : GX} (hs : SF Γ) {N : Nat} {K_65 : Nat → Int32 → Int32 → Int32 → Int32 → Int32 → PH → Option (Int32 × PH)} (hK_65 : ∀ (l0 : Nat) (l2 : Int32) (l3 : Int32) (l4 : Int32) (l5 : Int32) (l6 : Int32) (h : PH) (Q : Int32 → PH → Prop), wp (K_65 l0 l2 l3 l4 l5 l6 h) Q → G Γ yX11_years cX11_years 9 (some .int) (8, 0, 0) 65 [some (.ref l0), none, some (.int l2), some (.int l3), some (.int l4), some (.int l5), some (.int l6), none, none] [] h (0, 0) (q_i Q)) (l0 : Nat) (l2 : Int32) (l3 : Int32) (l4 : Int32) (l5 : Int32) (l6 : Int32) (h : PH) (Q : Int32 → PH → Prop) (hw : wp (f_X11_years_142 N K_65 l0 l2 l3 l4 l5 l6 h) Q) : G Γ yX11_years cX11_years 9 (some .int) (8, 0, 0) 142 [some (.ref l0), none, some (.int l2), some (.int l3), some (.int l4), some (.int l5), some (.int l6), none, none] [] h (0, 0) (q_i Q) := by
  unfold f_X11_years_142 at hw
  refine G_aload_n dX11_years_142 rfl ?_
  obtain ⟨c3, hw⟩ := wp_ck hw
  refine G_callV (As := []) (s_X11_passes hs l0 h _ (wp_cl hw)) ca_X11_passes w_1881 w_95 (ci := 10) rfl (by decide) w_1879 c3 (Nat.le_of_ble_eq_true rfl) (Nat.le_of_ble_eq_true rfl) rfl (Nat.le_of_ble_eq_true rfl) (Nat.le_of_ble_eq_true rfl) (Nat.le_of_ble_eq_true rfl) dX11_years_143 rfl (fun v h2 hq => ?_)
  obtain ⟨r1, rfl, hw⟩ := hq
  refine G.cse (cs' := (0, 0)) rfl ?_
  show GZ _ _ _ _ _ _ _ 146 _ (.int r1 :: []) _ _
  refine G_pop dX11_years_146 rfl ?_
  refine G_iload dX11_years_147 rfl ?_
  refine G_aload_n dX11_years_149 rfl ?_
  obtain ⟨c4, hw⟩ := wp_ck hw
  refine G_getI fl_X11_signsRead w_1448 dX11_years_150 c4 ?_
  refine G_iadd dX11_years_153 ?_
  refine G.topi fun v5 ev5 => ?_
  have hw := wp_bd hw v5 ev5
  refine G_istore (lv' := [some (.ref l0), none, some (.int l2), some (.int l3), some (.int v5), some (.int l5), some (.int l6), none, none]) dX11_years_154 (Nat.le_of_ble_eq_true rfl) rfl ?_
  refine G_iload dX11_years_156 rfl ?_
  refine G_aload_n dX11_years_158 rfl ?_
  refine G_getI fl_X11_sootCame w_1449 dX11_years_159 c4 ?_
  refine G_iadd dX11_years_162 ?_
  refine G.topi fun v6 ev6 => ?_
  have hw := wp_bd hw v6 ev6
  refine G_istore (lv' := [some (.ref l0), none, some (.int l2), some (.int l3), some (.int v5), some (.int v6), some (.int l6), none, none]) dX11_years_163 (Nat.le_of_ble_eq_true rfl) rfl ?_
  obtain ⟨v7, ev7⟩ : ∃ z : Int32, z = l6 + (1 : Int32) := ⟨_, rfl⟩
  have hw := wp_bd hw v7 ev7
  refine G_iinc (v := v7) (lv' := [some (.ref l0), none, some (.int l2), some (.int l3), some (.int v5), some (.int v6), some (.int v7), none, none]) dX11_years_165 rfl (by rw [ev7]; rfl) (Nat.le_of_ble_eq_true rfl) rfl ?_
  refine G_goto (tgt := 65) dX11_years_168 rfl ?_
  refine G.less [some (.ref l0), none, some (.int l2), some (.int l3), some (.int v5), some (.int v6), some (.int v7), none, none] ⟨rfl, ⟨rfl, ⟨rfl, ⟨rfl, ⟨rfl, ⟨rfl, trivial⟩⟩⟩⟩⟩⟩ ?_
  exact hK_65 _ _ _ _ _ _ h2 Q hw
set_option maxHeartbeats 4000000 in
set_option maxRecDepth 100000 in
theorem f_X11_years_74_bok {Γ : GX} (hs : SF Γ) {N : Nat} {K_65 : Nat → Int32 → Int32 → Int32 → Int32 → Int32 → PH → Option (Int32 × PH)} {K_74 : Nat → Int32 → Int32 → Int32 → Int32 → Int32 → Int32 → PH → Option (Int32 × PH)} (hK_65 : ∀ (l0 : Nat) (l2 : Int32) (l3 : Int32) (l4 : Int32) (l5 : Int32) (l6 : Int32) (h : PH) (Q : Int32 → PH → Prop), wp (K_65 l0 l2 l3 l4 l5 l6 h) Q → G Γ yX11_years cX11_years 9 (some .int) (8, 0, 0) 65 [some (.ref l0), none, some (.int l2), some (.int l3), some (.int l4), some (.int l5), some (.int l6), none, none] [] h (0, 0) (q_i Q)) (hK_74 : ∀ (l0 : Nat) (l2 : Int32) (l3 : Int32) (l4 : Int32) (l5 : Int32) (l6 : Int32) (l7 : Int32) (h : PH) (Q : Int32 → PH → Prop), wp (K_74 l0 l2 l3 l4 l5 l6 l7 h) Q → G Γ yX11_years cX11_years 9 (some .int) (8, 0, 0) 74 [some (.ref l0), none, some (.int l2), some (.int l3), some (.int l4), some (.int l5), some (.int l6), some (.int l7), none] [] h (0, 0) (q_i Q)) (l0 : Nat) (l2 : Int32) (l3 : Int32) (l4 : Int32) (l5 : Int32) (l6 : Int32) (l7 : Int32) (h : PH) (Q : Int32 → PH → Prop) (hw : wp (f_X11_years_74_b N K_65 K_74 l0 l2 l3 l4 l5 l6 l7 h) Q) : G Γ yX11_years cX11_years 9 (some .int) (8, 0, 0) 74 [some (.ref l0), none, some (.int l2), some (.int l3), some (.int l4), some (.int l5), some (.int l6), some (.int l7), none] [] h (0, 0) (q_i Q) := by
  unfold f_X11_years_74_b at hw
  refine G_iload dX11_years_74 rfl ?_
  refine G_aload_n dX11_years_76 rfl ?_
  obtain ⟨c1, hw⟩ := wp_ck hw
  refine G_getR fl_X11_valley w_1403 dX11_years_77 c1 ?_
  obtain ⟨a2, ea2, hw⟩ := wp_rq hw
  refine G.sure ea2 ?_
  refine G_iconst (v := (2 : Int32)) dX11_years_80 (by decide) ?_
  obtain ⟨c3, hw⟩ := wp_ck hw
  obtain ⟨c4, hw⟩ := wp_ck hw
  refine G_ialoadK (k := 2) dX11_years_81 c3 (by decide) rfl c4 ?_
  have hw := wp_if hw
  refine G_icmp_ge (tgt := 142) dX11_years_82 rfl (fun c5 => ?_) (fun c5 => ?_)
  · have hw := hw.1 c5
    refine G.less [some (.ref l0), none, some (.int l2), some (.int l3), some (.int l4), some (.int l5), some (.int l6), none, none] ⟨rfl, ⟨rfl, ⟨rfl, ⟨rfl, ⟨rfl, ⟨rfl, trivial⟩⟩⟩⟩⟩⟩ ?_
    exact f_X11_years_142_ok hs hK_65 _ _ _ _ _ _ h Q hw
  · have hw := hw.2 c5
    refine G_aload_n dX11_years_85 rfl ?_
    refine G_getR fl_X11_valley w_1403 dX11_years_86 c1 ?_
    obtain ⟨a6, ea6, hw⟩ := wp_rq hw
    refine G.sure ea6 ?_
    refine G_iconst (v := (0 : Int32)) dX11_years_89 (by decide) ?_
    obtain ⟨c7, hw⟩ := wp_ck hw
    obtain ⟨c8, hw⟩ := wp_ck hw
    refine G_ialoadK (k := 0) dX11_years_90 c7 (by decide) rfl c8 ?_
    have hw := wp_if hw
    refine G_if_le (tgt := 142) dX11_years_91 rfl (fun c9 => ?_) (fun c9 => ?_)
    · have hw := hw.1 c9
      refine G.less [some (.ref l0), none, some (.int l2), some (.int l3), some (.int l4), some (.int l5), some (.int l6), none, none] ⟨rfl, ⟨rfl, ⟨rfl, ⟨rfl, ⟨rfl, ⟨rfl, trivial⟩⟩⟩⟩⟩⟩ ?_
      exact f_X11_years_142_ok hs hK_65 _ _ _ _ _ _ h Q hw
    · have hw := hw.2 c9
      refine G_aload_n dX11_years_94 rfl ?_
      refine G_aload_n dX11_years_95 rfl ?_
      refine G_getR fl_X11_valley w_1403 dX11_years_96 c1 ?_
      obtain ⟨a10, ea10, hw⟩ := wp_rq hw
      refine G.sure ea10 ?_
      refine G_iconst (v := (0 : Int32)) dX11_years_99 (by decide) ?_
      obtain ⟨c11, hw⟩ := wp_ck hw
      obtain ⟨c12, hw⟩ := wp_ck hw
      refine G_ialoadK (k := 0) dX11_years_100 c11 (by decide) rfl c12 ?_
      refine G_iconst (v := (1 : Int32)) dX11_years_101 (by decide) ?_
      refine G_iadd dX11_years_102 ?_
      refine G_callV (As := [.int ((hI h a10 0) + (1 : Int32))]) (s_X11_draws hs l0 ((hI h a10 0) + (1 : Int32)) h _ (wp_cl hw)) ca_X11_draws w_2053 w_123 (ci := 10) rfl (by decide) w_2051 c1 (Nat.le_of_ble_eq_true rfl) (Nat.le_of_ble_eq_true rfl) rfl (Nat.le_of_ble_eq_true rfl) (Nat.le_of_ble_eq_true rfl) (Nat.le_of_ble_eq_true rfl) dX11_years_103 rfl (fun v h14 hq => ?_)
      obtain ⟨r13, rfl, hw⟩ := hq
      refine G.cse (cs' := (0, 0)) rfl ?_
      show GZ _ _ _ _ _ _ _ 106 _ (.int r13 :: []) _ _
      refine G_istore (lv' := [some (.ref l0), none, some (.int l2), some (.int l3), some (.int l4), some (.int l5), some (.int l6), some (.int l7), some (.int r13)]) dX11_years_106 (Nat.le_of_ble_eq_true rfl) rfl ?_
      refine G_aload_n dX11_years_108 rfl ?_
      refine G_iload dX11_years_109 rfl ?_
      obtain ⟨c17, hw⟩ := wp_ck hw
      refine G_callV (As := [.int r13]) (s_X11_isFuel hs l0 r13 h14 _ (wp_cl hw)) ca_X11_isFuel w_1850 w_90 (ci := 10) rfl (by decide) w_1848 c17 (Nat.le_of_ble_eq_true rfl) (Nat.le_of_ble_eq_true rfl) rfl (Nat.le_of_ble_eq_true rfl) (Nat.le_of_ble_eq_true rfl) (Nat.le_of_ble_eq_true rfl) dX11_years_111 rfl (fun v h16 hq => ?_)
      obtain ⟨r15, rfl, hw⟩ := hq
      refine G.cse (cs' := (0, 0)) rfl ?_
      show GZ _ _ _ _ _ _ _ 114 _ (.int r15 :: []) _ _
      have hw := wp_if hw
      refine G_if_eq (tgt := 136) dX11_years_114 rfl (fun c18 => ?_) (fun c18 => ?_)
      · have hw := hw.1 c18
        refine G.less [some (.ref l0), none, some (.int l2), some (.int l3), some (.int l4), some (.int l5), some (.int l6), some (.int l7), none] ⟨rfl, ⟨rfl, ⟨rfl, ⟨rfl, ⟨rfl, ⟨rfl, ⟨rfl, trivial⟩⟩⟩⟩⟩⟩⟩ ?_
        exact f_X11_years_136_ok hs hK_65 hK_74 _ _ _ _ _ _ _ h16 Q hw
      · have hw := hw.2 c18
        refine G_aload_n dX11_years_117 rfl ?_
        refine G_iload dX11_years_118 rfl ?_
        refine G_iload dX11_years_120 rfl ?_
        obtain ⟨c21, hw⟩ := wp_ck hw
        refine G_callV (As := [.int l7, .int r13]) (s_X11_canBurn hs l0 l7 r13 h16 _ (wp_cl hw)) ca_X11_canBurn w_1854 w_91 (ci := 10) rfl (by decide) w_1852 c21 (Nat.le_of_ble_eq_true rfl) (Nat.le_of_ble_eq_true rfl) rfl (Nat.le_of_ble_eq_true rfl) (Nat.le_of_ble_eq_true rfl) (Nat.le_of_ble_eq_true rfl) dX11_years_122 rfl (fun v h20 hq => ?_)
        obtain ⟨r19, rfl, hw⟩ := hq
        refine G.cse (cs' := (0, 0)) rfl ?_
        show GZ _ _ _ _ _ _ _ 125 _ (.int r19 :: []) _ _
        have hw := wp_if hw
        refine G_if_eq (tgt := 136) dX11_years_125 rfl (fun c22 => ?_) (fun c22 => ?_)
        · have hw := hw.1 c22
          refine G.less [some (.ref l0), none, some (.int l2), some (.int l3), some (.int l4), some (.int l5), some (.int l6), some (.int l7), none] ⟨rfl, ⟨rfl, ⟨rfl, ⟨rfl, ⟨rfl, ⟨rfl, ⟨rfl, trivial⟩⟩⟩⟩⟩⟩⟩ ?_
          exact f_X11_years_136_ok hs hK_65 hK_74 _ _ _ _ _ _ _ h20 Q hw
        · have hw := hw.2 c22
          refine G_aload_n dX11_years_128 rfl ?_
          refine G_iload dX11_years_129 rfl ?_
          refine G_iload dX11_years_131 rfl ?_
          obtain ⟨c25, hw⟩ := wp_ck hw
          refine G_callV (As := [.int l7, .int r13]) (s_X11_lights hs l0 l7 r13 h20 _ (wp_cl hw)) ca_X11_lights w_1865 w_93 (ci := 10) rfl (by decide) w_1863 c25 (Nat.le_of_ble_eq_true rfl) (Nat.le_of_ble_eq_true rfl) rfl (Nat.le_of_ble_eq_true rfl) (Nat.le_of_ble_eq_true rfl) (Nat.le_of_ble_eq_true rfl) dX11_years_133 rfl (fun v h24 hq => ?_)
          obtain ⟨rfl, hw⟩ := hq
          refine G.cse (cs' := (0, 0)) rfl ?_
          show GZ _ _ _ _ _ _ _ 136 _ [] _ _
          refine G.less [some (.ref l0), none, some (.int l2), some (.int l3), some (.int l4), some (.int l5), some (.int l6), some (.int l7), none] ⟨rfl, ⟨rfl, ⟨rfl, ⟨rfl, ⟨rfl, ⟨rfl, ⟨rfl, trivial⟩⟩⟩⟩⟩⟩⟩ ?_
          exact f_X11_years_136_ok hs hK_65 hK_74 _ _ _ _ _ _ _ h24 Q hw
theorem f_X11_years_74_ok {Γ : GX} (hs : SF Γ) {N : Nat} {K_65 : Nat → Int32 → Int32 → Int32 → Int32 → Int32 → PH → Option (Int32 × PH)} (hK_65 : ∀ (l0 : Nat) (l2 : Int32) (l3 : Int32) (l4 : Int32) (l5 : Int32) (l6 : Int32) (h : PH) (Q : Int32 → PH → Prop), wp (K_65 l0 l2 l3 l4 l5 l6 h) Q → G Γ yX11_years cX11_years 9 (some .int) (8, 0, 0) 65 [some (.ref l0), none, some (.int l2), some (.int l3), some (.int l4), some (.int l5), some (.int l6), none, none] [] h (0, 0) (q_i Q)) : ∀ (n : Nat) (l0 : Nat) (l2 : Int32) (l3 : Int32) (l4 : Int32) (l5 : Int32) (l6 : Int32) (l7 : Int32) (h : PH) (Q : Int32 → PH → Prop), wp (f_X11_years_74 N K_65 n l0 l2 l3 l4 l5 l6 l7 h) Q → G Γ yX11_years cX11_years 9 (some .int) (8, 0, 0) 74 [some (.ref l0), none, some (.int l2), some (.int l3), some (.int l4), some (.int l5), some (.int l6), some (.int l7), none] [] h (0, 0) (q_i Q)
  | 0, _, _, _, _, _, _, _, _, Q, hw => (wp_no hw).elim
  | n + 1, l0, l2, l3, l4, l5, l6, l7, h, Q, hw => f_X11_years_74_bok (N := N) hs hK_65 (f_X11_years_74_ok (N := N) hs hK_65 n) l0 l2 l3 l4 l5 l6 l7 h Q hw
set_option maxHeartbeats 4000000 in
set_option maxRecDepth 100000 in
theorem f_X11_years_65_bok {Γ : GX} (hs : SF Γ) {N : Nat} {K_65 : Nat → Int32 → Int32 → Int32 → Int32 → Int32 → PH → Option (Int32 × PH)} (hK_65 : ∀ (l0 : Nat) (l2 : Int32) (l3 : Int32) (l4 : Int32) (l5 : Int32) (l6 : Int32) (h : PH) (Q : Int32 → PH → Prop), wp (K_65 l0 l2 l3 l4 l5 l6 h) Q → G Γ yX11_years cX11_years 9 (some .int) (8, 0, 0) 65 [some (.ref l0), none, some (.int l2), some (.int l3), some (.int l4), some (.int l5), some (.int l6), none, none] [] h (0, 0) (q_i Q)) (l0 : Nat) (l2 : Int32) (l3 : Int32) (l4 : Int32) (l5 : Int32) (l6 : Int32) (h : PH) (Q : Int32 → PH → Prop) (hw : wp (f_X11_years_65_b N K_65 l0 l2 l3 l4 l5 l6 h) Q) : G Γ yX11_years cX11_years 9 (some .int) (8, 0, 0) 65 [some (.ref l0), none, some (.int l2), some (.int l3), some (.int l4), some (.int l5), some (.int l6), none, none] [] h (0, 0) (q_i Q) := by
  unfold f_X11_years_65_b at hw
  refine G_iload dX11_years_65 rfl ?_
  refine G_iload_n dX11_years_67 rfl ?_
  have hw := wp_if hw
  refine G_icmp_ge (tgt := 171) dX11_years_68 rfl (fun c1 => ?_) (fun c1 => ?_)
  · have hw := hw.1 c1
    refine G_aload_n dX11_years_171 rfl ?_
    obtain ⟨c4, hw⟩ := wp_ck hw
    refine G_callV (As := []) (s_X11_stocks hs l0 h _ (wp_cl hw)) ca_X11_stocks w_2061 w_124 (ci := 10) rfl (by decide) w_2059 c4 (Nat.le_of_ble_eq_true rfl) (Nat.le_of_ble_eq_true rfl) rfl (Nat.le_of_ble_eq_true rfl) (Nat.le_of_ble_eq_true rfl) (Nat.le_of_ble_eq_true rfl) dX11_years_172 rfl (fun v h3 hq => ?_)
    obtain ⟨r2, rfl, hw⟩ := hq
    refine G.cse (cs' := (0, 0)) rfl ?_
    show GZ _ _ _ _ _ _ _ 175 _ (.int r2 :: []) _ _
    refine G_istore (lv' := [some (.ref l0), none, some (.int l2), some (.int l3), some (.int l4), some (.int l5), some (.int r2), none, none]) dX11_years_175 (Nat.le_of_ble_eq_true rfl) rfl ?_
    refine G_aload_n dX11_years_177 rfl ?_
    obtain ⟨c5, hw⟩ := wp_ck hw
    refine G_getR fl_X11_aside w_1443 dX11_years_178 c5 ?_
    obtain ⟨a6, ea6, hw⟩ := wp_rq hw
    refine G.sure ea6 ?_
    refine G_iconst (v := (0 : Int32)) dX11_years_181 (by decide) ?_
    refine G_aload_n dX11_years_182 rfl ?_
    refine G_getR fl_X11_s w_1442 dX11_years_183 c5 ?_
    obtain ⟨a7, ea7, hw⟩ := wp_rq hw
    refine G.sure ea7 ?_
    refine G_iconst (v := (0 : Int32)) dX11_years_186 (by decide) ?_
    refine G_callS (As := [.ref a6, .int (0 : Int32), .ref a7, .int (0 : Int32)]) (s_X11_copies hs a6 (0 : Int32) a7 (0 : Int32) h3 _ (wp_cl hw)) ca_X11_copies w_1861 w_1860 (Nat.le_of_ble_eq_true rfl) (Nat.le_of_ble_eq_true rfl) rfl (Nat.le_of_ble_eq_true rfl) (Nat.le_of_ble_eq_true rfl) (Nat.le_of_ble_eq_true rfl) dX11_years_187 rfl (fun v h9 hq => ?_)
    obtain ⟨rfl, hw⟩ := hq
    refine G.cse (cs' := (0, 0)) rfl ?_
    show GZ _ _ _ _ _ _ _ 190 _ [] _ _
    refine G_iload_n dX11_years_190 rfl ?_
    have hw := wp_if hw
    refine G_if_ne (tgt := 199) dX11_years_191 rfl (fun c10 => ?_) (fun c10 => ?_)
    · have hw := hw.2 c10
      refine G_iload_n dX11_years_199 rfl ?_
      refine G_iconst (v := (1 : Int32)) dX11_years_200 (by decide) ?_
      have hw := wp_if hw
      refine G_icmp_ne (tgt := 209) dX11_years_201 rfl (fun c11 => ?_) (fun c11 => ?_)
      · have hw := hw.2 c11
        refine G_iload dX11_years_209 rfl ?_
        exact G_ireturn rfl dX11_years_211 ⟨_, rfl, wp_ret hw⟩
      · have hw := hw.1 c11
        refine G_iload dX11_years_204 rfl ?_
        refine G_goto (tgt := 211) dX11_years_206 rfl ?_
        exact G_ireturn rfl dX11_years_211 ⟨_, rfl, wp_ret hw⟩
    · have hw := hw.1 c10
      refine G_iload dX11_years_194 rfl ?_
      refine G_goto (tgt := 211) dX11_years_196 rfl ?_
      exact G_ireturn rfl dX11_years_211 ⟨_, rfl, wp_ret hw⟩
  · have hw := hw.2 c1
    refine G_iconst (v := (0 : Int32)) dX11_years_71 (by decide) ?_
    refine G_istore (lv' := [some (.ref l0), none, some (.int l2), some (.int l3), some (.int l4), some (.int l5), some (.int l6), some (.int (0 : Int32)), none]) dX11_years_72 (Nat.le_of_ble_eq_true rfl) rfl ?_
    refine G.less [some (.ref l0), none, some (.int l2), some (.int l3), some (.int l4), some (.int l5), some (.int l6), some (.int (0 : Int32)), none] ⟨rfl, ⟨rfl, ⟨rfl, ⟨rfl, ⟨rfl, ⟨rfl, ⟨rfl, trivial⟩⟩⟩⟩⟩⟩⟩ ?_
    exact f_X11_years_74_ok hs hK_65 N _ _ _ _ _ _ _ h Q hw
theorem f_X11_years_65_ok {Γ : GX} (hs : SF Γ) {N : Nat} : ∀ (n : Nat) (l0 : Nat) (l2 : Int32) (l3 : Int32) (l4 : Int32) (l5 : Int32) (l6 : Int32) (h : PH) (Q : Int32 → PH → Prop), wp (f_X11_years_65 N n l0 l2 l3 l4 l5 l6 h) Q → G Γ yX11_years cX11_years 9 (some .int) (8, 0, 0) 65 [some (.ref l0), none, some (.int l2), some (.int l3), some (.int l4), some (.int l5), some (.int l6), none, none] [] h (0, 0) (q_i Q)
  | 0, _, _, _, _, _, _, _, Q, hw => (wp_no hw).elim
  | n + 1, l0, l2, l3, l4, l5, l6, h, Q, hw => f_X11_years_65_bok (N := N) hs (f_X11_years_65_ok (N := N) hs n) l0 l2 l3 l4 l5 l6 h Q hw
set_option maxHeartbeats 4000000 in
set_option maxRecDepth 100000 in
theorem s_X11_years {Γ : GX} (hs : SF Γ) {N : Nat} (l0 : Nat) (l1 : Int32) (l2 : Int32) (l3 : Int32) (h : PH) (Q : Int32 → PH → Prop) (hw : wp (f_X11_years N l0 l1 l2 l3 h) Q) : Spec Γ yX11_years cX11_years 9 (some .int) (8, 0, 0) [.ref l0, .int l1, .int l2, .int l3] h (q_i Q) := by
  refine Spec.of (by decide) (Nat.le_of_ble_eq_true rfl) [some (.ref l0), some (.int l1), some (.int l2), some (.int l3), none, none, none, none, none] rfl ?_
  unfold f_X11_years at hw
  refine G_aload_n dX11_years_0 rfl ?_
  refine G_iconst (v := (0 : Int32)) dX11_years_1 (by decide) ?_
  obtain ⟨c1, hw⟩ := wp_ck hw
  refine G_putI fl_X11_thrown w_1393 dX11_years_2 c1 ?_
  refine G.nmh fun h2 eh2 => ?_
  have hw := wp_bd hw h2 eh2
  refine G_iload_n dX11_years_5 rfl ?_
  refine G_iconst (v := (0 : Int32)) dX11_years_6 (by decide) ?_
  refine G_sipush (v := (9999 : Int32)) dX11_years_7 (by decide) ?_
  refine G_callS (As := [.int l1, .int (0 : Int32), .int (9999 : Int32)]) (s_X11_within hs l1 (0 : Int32) (9999 : Int32) h2 _ (wp_cl hw)) ca_X11_within w_1686 w_1685 (Nat.le_of_ble_eq_true rfl) (Nat.le_of_ble_eq_true rfl) rfl (Nat.le_of_ble_eq_true rfl) (Nat.le_of_ble_eq_true rfl) (Nat.le_of_ble_eq_true rfl) dX11_years_10 rfl (fun v h4 hq => ?_)
  obtain ⟨r3, rfl, hw⟩ := hq
  refine G.cse (cs' := (0, 0)) rfl ?_
  show GZ _ _ _ _ _ _ _ 13 _ (.int r3 :: []) _ _
  have hw := wp_if hw
  refine G_if_eq (tgt := 35) dX11_years_13 rfl (fun c5 => ?_) (fun c5 => ?_)
  · have hw := hw.1 c5
    refine G_iconst (v := (-1 : Int32)) dX11_years_35 (by decide) ?_
    exact G_ireturn rfl dX11_years_36 ⟨_, rfl, wp_ret hw⟩
  · have hw := hw.2 c5
    refine G_iload_n dX11_years_16 rfl ?_
    refine G_iconst (v := (1 : Int32)) dX11_years_17 (by decide) ?_
    refine G_bipush (v := (99 : Int32)) dX11_years_18 (by decide) ?_
    refine G_callS (As := [.int l2, .int (1 : Int32), .int (99 : Int32)]) (s_X11_within hs l2 (1 : Int32) (99 : Int32) h4 _ (wp_cl hw)) ca_X11_within w_1686 w_1685 (Nat.le_of_ble_eq_true rfl) (Nat.le_of_ble_eq_true rfl) rfl (Nat.le_of_ble_eq_true rfl) (Nat.le_of_ble_eq_true rfl) (Nat.le_of_ble_eq_true rfl) dX11_years_20 rfl (fun v h7 hq => ?_)
    obtain ⟨r6, rfl, hw⟩ := hq
    refine G.cse (cs' := (0, 0)) rfl ?_
    show GZ _ _ _ _ _ _ _ 23 _ (.int r6 :: []) _ _
    have hw := wp_if hw
    refine G_if_eq (tgt := 35) dX11_years_23 rfl (fun c8 => ?_) (fun c8 => ?_)
    · have hw := hw.1 c8
      refine G_iconst (v := (-1 : Int32)) dX11_years_35 (by decide) ?_
      exact G_ireturn rfl dX11_years_36 ⟨_, rfl, wp_ret hw⟩
    · have hw := hw.2 c8
      refine G_iload_n dX11_years_26 rfl ?_
      refine G_iconst (v := (0 : Int32)) dX11_years_27 (by decide) ?_
      refine G_iconst (v := (2 : Int32)) dX11_years_28 (by decide) ?_
      refine G_callS (As := [.int l3, .int (0 : Int32), .int (2 : Int32)]) (s_X11_within hs l3 (0 : Int32) (2 : Int32) h7 _ (wp_cl hw)) ca_X11_within w_1686 w_1685 (Nat.le_of_ble_eq_true rfl) (Nat.le_of_ble_eq_true rfl) rfl (Nat.le_of_ble_eq_true rfl) (Nat.le_of_ble_eq_true rfl) (Nat.le_of_ble_eq_true rfl) dX11_years_29 rfl (fun v h10 hq => ?_)
      obtain ⟨r9, rfl, hw⟩ := hq
      refine G.cse (cs' := (0, 0)) rfl ?_
      show GZ _ _ _ _ _ _ _ 32 _ (.int r9 :: []) _ _
      have hw := wp_if hw
      refine G_if_ne (tgt := 37) dX11_years_32 rfl (fun c11 => ?_) (fun c11 => ?_)
      · have hw := hw.2 c11
        refine G_aload_n dX11_years_37 rfl ?_
        refine G_iload_n dX11_years_38 rfl ?_
        refine G_i2l dX11_years_39 ?_
        obtain ⟨c12, hw⟩ := wp_ck hw
        refine G_putJ fl_X11_g w_1458 dX11_years_40 c12 ?_
        refine G.nmh fun h13 eh13 => ?_
        have hw := wp_bd hw h13 eh13
        refine G_aload_n dX11_years_43 rfl ?_
        obtain ⟨c14, hw⟩ := wp_ck hw
        refine G_getR fl_X11_s w_1442 dX11_years_44 c14 ?_
        obtain ⟨a15, ea15, hw⟩ := wp_rq hw
        refine G.sure ea15 ?_
        refine G_iconst (v := (0 : Int32)) dX11_years_47 (by decide) ?_
        refine G_aload_n dX11_years_48 rfl ?_
        refine G_getR fl_X11_aside w_1443 dX11_years_49 c14 ?_
        obtain ⟨a16, ea16, hw⟩ := wp_rq hw
        refine G.sure ea16 ?_
        refine G_iconst (v := (0 : Int32)) dX11_years_52 (by decide) ?_
        refine G_callS (As := [.ref a15, .int (0 : Int32), .ref a16, .int (0 : Int32)]) (s_X11_copies hs a15 (0 : Int32) a16 (0 : Int32) h13 _ (wp_cl hw)) ca_X11_copies w_1861 w_1860 (Nat.le_of_ble_eq_true rfl) (Nat.le_of_ble_eq_true rfl) rfl (Nat.le_of_ble_eq_true rfl) (Nat.le_of_ble_eq_true rfl) (Nat.le_of_ble_eq_true rfl) dX11_years_53 rfl (fun v h18 hq => ?_)
        obtain ⟨rfl, hw⟩ := hq
        refine G.cse (cs' := (0, 0)) rfl ?_
        show GZ _ _ _ _ _ _ _ 56 _ [] _ _
        refine G_iconst (v := (0 : Int32)) dX11_years_56 (by decide) ?_
        refine G_istore (lv' := [some (.ref l0), some (.int l1), some (.int l2), some (.int l3), some (.int (0 : Int32)), none, none, none, none]) dX11_years_57 (Nat.le_of_ble_eq_true rfl) rfl ?_
        refine G_iconst (v := (0 : Int32)) dX11_years_59 (by decide) ?_
        refine G_istore (lv' := [some (.ref l0), some (.int l1), some (.int l2), some (.int l3), some (.int (0 : Int32)), some (.int (0 : Int32)), none, none, none]) dX11_years_60 (Nat.le_of_ble_eq_true rfl) rfl ?_
        refine G_iconst (v := (0 : Int32)) dX11_years_62 (by decide) ?_
        refine G_istore (lv' := [some (.ref l0), some (.int l1), some (.int l2), some (.int l3), some (.int (0 : Int32)), some (.int (0 : Int32)), some (.int (0 : Int32)), none, none]) dX11_years_63 (Nat.le_of_ble_eq_true rfl) rfl ?_
        refine G.less [some (.ref l0), none, some (.int l2), some (.int l3), some (.int (0 : Int32)), some (.int (0 : Int32)), some (.int (0 : Int32)), none, none] ⟨rfl, ⟨rfl, ⟨rfl, ⟨rfl, ⟨rfl, ⟨rfl, trivial⟩⟩⟩⟩⟩⟩ ?_
        exact f_X11_years_65_ok hs N _ _ _ _ _ _ h18 Q hw
      · have hw := hw.1 c11
        refine G_iconst (v := (-1 : Int32)) dX11_years_35 (by decide) ?_
        exact G_ireturn rfl dX11_years_36 ⟨_, rfl, wp_ret hw⟩
set_option maxHeartbeats 4000000 in
set_option maxRecDepth 100000 in
theorem f_X11_mark_59_ok {Γ : GX} (hs : SF Γ) {N : Nat} (s0 : Int32) (l0 : Nat) (l1 : Int32) (l2 : Int32) (l3 : Int32) (h : PH) (Q : Int32 → PH → Prop) (hw : wp (f_X11_mark_59 N s0 l0 l1 l2 l3 h) Q) : G Γ yX11_mark cX11_mark 5 (some .boolean) (2, 0, 0) 59 [some (.ref l0), some (.int l1), some (.int l2), some (.int l3), none] [.int s0] h (0, 0) (q_i Q) := by
  unfold f_X11_mark_59 at hw
  refine G_istore (lv' := [some (.ref l0), some (.int l1), some (.int l2), some (.int l3), some (.int s0)]) dX11_mark_59 (Nat.le_of_ble_eq_true rfl) rfl ?_
  refine G_aload_n dX11_mark_61 rfl ?_
  refine G_iload_n dX11_mark_62 rfl ?_
  refine G_iload dX11_mark_63 rfl ?_
  obtain ⟨c3, hw⟩ := wp_ck hw
  refine G_callV (As := [.int l3, .int s0]) (s_X11_laysLines hs l0 l3 s0 h _ (wp_cl hw)) ca_X11_laysLines w_1778 w_76 (ci := 10) rfl (by decide) w_1776 c3 (Nat.le_of_ble_eq_true rfl) (Nat.le_of_ble_eq_true rfl) rfl (Nat.le_of_ble_eq_true rfl) (Nat.le_of_ble_eq_true rfl) (Nat.le_of_ble_eq_true rfl) dX11_mark_65 rfl (fun v h2 hq => ?_)
  obtain ⟨rfl, hw⟩ := hq
  refine G.cse (cs' := (0, 0)) rfl ?_
  show GZ _ _ _ _ _ _ _ 68 _ [] _ _
  refine G_aload_n dX11_mark_68 rfl ?_
  refine G_iload_n dX11_mark_69 rfl ?_
  refine G_iload dX11_mark_70 rfl ?_
  obtain ⟨c6, hw⟩ := wp_ck hw
  refine G_callV (As := [.int l3, .int s0]) (s_X11_laysSeen hs l0 l3 s0 h2 _ (wp_cl hw)) ca_X11_laysSeen w_2069 w_125 (ci := 10) rfl (by decide) w_2067 c6 (Nat.le_of_ble_eq_true rfl) (Nat.le_of_ble_eq_true rfl) rfl (Nat.le_of_ble_eq_true rfl) (Nat.le_of_ble_eq_true rfl) (Nat.le_of_ble_eq_true rfl) dX11_mark_72 rfl (fun v h5 hq => ?_)
  obtain ⟨rfl, hw⟩ := hq
  refine G.cse (cs' := (0, 0)) rfl ?_
  show GZ _ _ _ _ _ _ _ 75 _ [] _ _
  refine G_iload_n dX11_mark_75 rfl ?_
  have hw := wp_if hw
  refine G_if_eq (tgt := 103) dX11_mark_76 rfl (fun c7 => ?_) (fun c7 => ?_)
  · have hw := hw.1 c7
    refine G_aload_n dX11_mark_103 rfl ?_
    obtain ⟨c8, hw⟩ := wp_ck hw
    refine G_getR fl_X11_s w_1442 dX11_mark_104 c8 ?_
    obtain ⟨a9, ea9, hw⟩ := wp_rq hw
    refine G.sure ea9 ?_
    refine G_iconst (v := (0 : Int32)) dX11_mark_107 (by decide) ?_
    refine G_aload_n dX11_mark_108 rfl ?_
    refine G_getR fl_X11_marked w_1444 dX11_mark_109 c8 ?_
    obtain ⟨a10, ea10, hw⟩ := wp_rq hw
    refine G.sure ea10 ?_
    refine G_bipush (v := (32 : Int32)) dX11_mark_112 (by decide) ?_
    refine G_iload_n dX11_mark_114 rfl ?_
    refine G_imul dX11_mark_115 ?_
    refine G_callS (As := [.ref a9, .int (0 : Int32), .ref a10, .int ((32 : Int32) * l1)]) (s_X11_copies hs a9 (0 : Int32) a10 ((32 : Int32) * l1) h5 _ (wp_cl hw)) ca_X11_copies w_1861 w_1860 (Nat.le_of_ble_eq_true rfl) (Nat.le_of_ble_eq_true rfl) rfl (Nat.le_of_ble_eq_true rfl) (Nat.le_of_ble_eq_true rfl) (Nat.le_of_ble_eq_true rfl) dX11_mark_116 rfl (fun v h12 hq => ?_)
    obtain ⟨rfl, hw⟩ := hq
    refine G.cse (cs' := (0, 0)) rfl ?_
    show GZ _ _ _ _ _ _ _ 119 _ [] _ _
    refine G_iconst (v := (1 : Int32)) dX11_mark_119 (by decide) ?_
    exact G_zreturn rfl dX11_mark_120 rfl ⟨_, rfl, wp_ret hw⟩
  · have hw := hw.2 c7
    refine G_aload_n dX11_mark_79 rfl ?_
    obtain ⟨c13, hw⟩ := wp_ck hw
    refine G_getR fl_X11_marked w_1444 dX11_mark_80 c13 ?_
    obtain ⟨a14, ea14, hw⟩ := wp_rq hw
    refine G.sure ea14 ?_
    refine G_bipush (v := (32 : Int32)) dX11_mark_83 (by decide) ?_
    refine G_iload_n dX11_mark_85 rfl ?_
    refine G_imul dX11_mark_86 ?_
    refine G_aload_n dX11_mark_87 rfl ?_
    refine G_getR fl_X11_s w_1442 dX11_mark_88 c13 ?_
    obtain ⟨a15, ea15, hw⟩ := wp_rq hw
    refine G.sure ea15 ?_
    refine G_iconst (v := (0 : Int32)) dX11_mark_91 (by decide) ?_
    refine G_callS (As := [.ref a14, .int ((32 : Int32) * l1), .ref a15, .int (0 : Int32)]) (s_X11_copies hs a14 ((32 : Int32) * l1) a15 (0 : Int32) h5 _ (wp_cl hw)) ca_X11_copies w_1861 w_1860 (Nat.le_of_ble_eq_true rfl) (Nat.le_of_ble_eq_true rfl) rfl (Nat.le_of_ble_eq_true rfl) (Nat.le_of_ble_eq_true rfl) (Nat.le_of_ble_eq_true rfl) dX11_mark_92 rfl (fun v h17 hq => ?_)
    obtain ⟨rfl, hw⟩ := hq
    refine G.cse (cs' := (0, 0)) rfl ?_
    show GZ _ _ _ _ _ _ _ 95 _ [] _ _
    refine G_aload_n dX11_mark_95 rfl ?_
    refine G_iconst (v := (0 : Int32)) dX11_mark_96 (by decide) ?_
    obtain ⟨c18, hw⟩ := wp_ck hw
    refine G_putI fl_X11_done w_1447 dX11_mark_97 c18 ?_
    refine G.nmh fun h19 eh19 => ?_
    have hw := wp_bd hw h19 eh19
    refine G_goto (tgt := 119) dX11_mark_100 rfl ?_
    refine G_iconst (v := (1 : Int32)) dX11_mark_119 (by decide) ?_
    exact G_zreturn rfl dX11_mark_120 rfl ⟨_, rfl, wp_ret hw⟩
set_option maxHeartbeats 4000000 in
set_option maxRecDepth 100000 in
theorem f_X11_mark_47_ok {Γ : GX} (hs : SF Γ) {N : Nat} (s0 : Int32) (l0 : Nat) (l1 : Int32) (l2 : Int32) (h : PH) (Q : Int32 → PH → Prop) (hw : wp (f_X11_mark_47 N s0 l0 l1 l2 h) Q) : G Γ yX11_mark cX11_mark 5 (some .boolean) (2, 0, 0) 47 [some (.ref l0), some (.int l1), some (.int l2), none, none] [.int s0] h (0, 0) (q_i Q) := by
  unfold f_X11_mark_47 at hw
  refine G_istore_n (lv' := [some (.ref l0), some (.int l1), some (.int l2), some (.int s0), none]) dX11_mark_47 (Nat.le_of_ble_eq_true rfl) rfl ?_
  refine G_iload_n dX11_mark_48 rfl ?_
  have hw := wp_if hw
  refine G_if_eq (tgt := 56) dX11_mark_49 rfl (fun c1 => ?_) (fun c1 => ?_)
  · have hw := hw.1 c1
    refine G_iconst (v := (1 : Int32)) dX11_mark_56 (by decide) ?_
    refine G_iload_n dX11_mark_57 rfl ?_
    refine G_iadd dX11_mark_58 ?_
    refine G.less [some (.ref l0), some (.int l1), some (.int l2), some (.int s0), none] ⟨rfl, ⟨rfl, ⟨rfl, ⟨rfl, trivial⟩⟩⟩⟩ ?_
    exact f_X11_mark_59_ok hs _ _ _ _ _ h Q hw
  · have hw := hw.2 c1
    refine G_iconst (v := (0 : Int32)) dX11_mark_52 (by decide) ?_
    refine G_goto (tgt := 59) dX11_mark_53 rfl ?_
    refine G.less [some (.ref l0), some (.int l1), some (.int l2), some (.int s0), none] ⟨rfl, ⟨rfl, ⟨rfl, ⟨rfl, trivial⟩⟩⟩⟩ ?_
    exact f_X11_mark_59_ok hs _ _ _ _ _ h Q hw
set_option maxHeartbeats 4000000 in
set_option maxRecDepth 100000 in
theorem f_X11_mark_29_ok {Γ : GX} (hs : SF Γ) {N : Nat} (l0 : Nat) (l1 : Int32) (l2 : Int32) (h : PH) (Q : Int32 → PH → Prop) (hw : wp (f_X11_mark_29 N l0 l1 l2 h) Q) : G Γ yX11_mark cX11_mark 5 (some .boolean) (2, 0, 0) 29 [some (.ref l0), some (.int l1), some (.int l2), none, none] [] h (0, 0) (q_i Q) := by
  unfold f_X11_mark_29 at hw
  refine G_aload_n dX11_mark_29 rfl ?_
  obtain ⟨c1, hw⟩ := wp_ck hw
  refine G_getR fl_X11_isLaid w_1446 dX11_mark_30 c1 ?_
  obtain ⟨a2, ea2, hw⟩ := wp_rq hw
  refine G.sure ea2 ?_
  refine G_iload_n dX11_mark_33 rfl ?_
  refine G_iconst (v := (1 : Int32)) dX11_mark_34 (by decide) ?_
  obtain ⟨c3, hw⟩ := wp_ck hw
  obtain ⟨c4, hw⟩ := wp_ck hw
  refine G_zastore dX11_mark_35 c3 c4 ?_
  refine G.nmh fun h5 eh5 => ?_
  have hw := wp_bd hw h5 eh5
  refine G_iload_n dX11_mark_36 rfl ?_
  have hw := wp_if hw
  refine G_if_eq (tgt := 46) dX11_mark_37 rfl (fun c6 => ?_) (fun c6 => ?_)
  · have hw := hw.1 c6
    refine G_iconst (v := (0 : Int32)) dX11_mark_46 (by decide) ?_
    refine G.less [some (.ref l0), some (.int l1), some (.int l2), none, none] ⟨rfl, ⟨rfl, ⟨rfl, trivial⟩⟩⟩ ?_
    exact f_X11_mark_47_ok hs _ _ _ _ h5 Q hw
  · have hw := hw.2 c6
    refine G_iconst (v := (1 : Int32)) dX11_mark_40 (by decide) ?_
    refine G_iload_n dX11_mark_41 rfl ?_
    refine G_iadd dX11_mark_42 ?_
    refine G_goto (tgt := 47) dX11_mark_43 rfl ?_
    refine G.less [some (.ref l0), some (.int l1), some (.int l2), none, none] ⟨rfl, ⟨rfl, ⟨rfl, trivial⟩⟩⟩ ?_
    exact f_X11_mark_47_ok hs _ _ _ _ h5 Q hw
set_option maxHeartbeats 4000000 in
set_option maxRecDepth 100000 in
theorem s_X11_mark {Γ : GX} (hs : SF Γ) {N : Nat} (l0 : Nat) (l1 : Int32) (l2 : Int32) (h : PH) (Q : Int32 → PH → Prop) (hw : wp (f_X11_mark N l0 l1 l2 h) Q) : Spec Γ yX11_mark cX11_mark 5 (some .boolean) (2, 0, 0) [.ref l0, .int l1, .int l2] h (q_i Q) := by
  refine Spec.of (by decide) (Nat.le_of_ble_eq_true rfl) [some (.ref l0), some (.int l1), some (.int l2), none, none] rfl ?_
  unfold f_X11_mark at hw
  refine G_aload_n dX11_mark_0 rfl ?_
  refine G_iconst (v := (0 : Int32)) dX11_mark_1 (by decide) ?_
  obtain ⟨c1, hw⟩ := wp_ck hw
  refine G_putI fl_X11_thrown w_1393 dX11_mark_2 c1 ?_
  refine G.nmh fun h2 eh2 => ?_
  have hw := wp_bd hw h2 eh2
  refine G_iload_n dX11_mark_5 rfl ?_
  refine G_iconst (v := (0 : Int32)) dX11_mark_6 (by decide) ?_
  refine G_iconst (v := (3 : Int32)) dX11_mark_7 (by decide) ?_
  refine G_callS (As := [.int l1, .int (0 : Int32), .int (3 : Int32)]) (s_X11_within hs l1 (0 : Int32) (3 : Int32) h2 _ (wp_cl hw)) ca_X11_within w_1686 w_1685 (Nat.le_of_ble_eq_true rfl) (Nat.le_of_ble_eq_true rfl) rfl (Nat.le_of_ble_eq_true rfl) (Nat.le_of_ble_eq_true rfl) (Nat.le_of_ble_eq_true rfl) dX11_mark_8 rfl (fun v h4 hq => ?_)
  obtain ⟨r3, rfl, hw⟩ := hq
  refine G.cse (cs' := (0, 0)) rfl ?_
  show GZ _ _ _ _ _ _ _ 11 _ (.int r3 :: []) _ _
  have hw := wp_if hw
  refine G_if_eq (tgt := 27) dX11_mark_11 rfl (fun c5 => ?_) (fun c5 => ?_)
  · have hw := hw.1 c5
    refine G_iconst (v := (0 : Int32)) dX11_mark_27 (by decide) ?_
    exact G_zreturn rfl dX11_mark_28 rfl ⟨_, rfl, wp_ret hw⟩
  · have hw := hw.2 c5
    refine G_iload_n dX11_mark_14 rfl ?_
    have hw := wp_if hw
    refine G_if_eq (tgt := 29) dX11_mark_15 rfl (fun c6 => ?_) (fun c6 => ?_)
    · have hw := hw.1 c6
      refine G.less [some (.ref l0), some (.int l1), some (.int l2), none, none] ⟨rfl, ⟨rfl, ⟨rfl, trivial⟩⟩⟩ ?_
      exact f_X11_mark_29_ok hs _ _ _ h4 Q hw
    · have hw := hw.2 c6
      refine G_aload_n dX11_mark_18 rfl ?_
      obtain ⟨c7, hw⟩ := wp_ck hw
      refine G_getR fl_X11_isLaid w_1446 dX11_mark_19 c7 ?_
      obtain ⟨a8, ea8, hw⟩ := wp_rq hw
      refine G.sure ea8 ?_
      refine G_iload_n dX11_mark_22 rfl ?_
      obtain ⟨c9, hw⟩ := wp_ck hw
      obtain ⟨c10, hw⟩ := wp_ck hw
      refine G_zaload dX11_mark_23 c9 c10 ?_
      have hw := wp_if hw
      refine G_if_ne (tgt := 29) dX11_mark_24 rfl (fun c11 => ?_) (fun c11 => ?_)
      · have hw := hw.2 c11
        refine G.less [some (.ref l0), some (.int l1), some (.int l2), none, none] ⟨rfl, ⟨rfl, ⟨rfl, trivial⟩⟩⟩ ?_
        exact f_X11_mark_29_ok hs _ _ _ h4 Q hw
      · have hw := hw.1 c11
        refine G_iconst (v := (0 : Int32)) dX11_mark_27 (by decide) ?_
        exact G_zreturn rfl dX11_mark_28 rfl ⟨_, rfl, wp_ret hw⟩
set_option maxHeartbeats 4000000 in
set_option maxRecDepth 100000 in
theorem f_X11_fires_30_ok {Γ : GX} (hs : SF Γ) {N : Nat} {K_4 : Nat → Int32 → Int32 → PH → Option (Int32 × PH)} (hK_4 : ∀ (l0 : Nat) (l1 : Int32) (l2 : Int32) (h : PH) (Q : Int32 → PH → Prop), wp (K_4 l0 l1 l2 h) Q → G Γ yX11_fires cX11_fires 3 (some .int) (2, 0, 0) 4 [some (.ref l0), some (.int l1), some (.int l2)] [] h (0, 0) (q_i Q)) (s0 : Int32) (s1 : Int32) (l0 : Nat) (l2 : Int32) (h : PH) (Q : Int32 → PH → Prop) (hw : wp (f_X11_fires_30 N K_4 s0 s1 l0 l2 h) Q) : G Γ yX11_fires cX11_fires 3 (some .int) (2, 0, 0) 30 [some (.ref l0), none, some (.int l2)] [.int s0, .int s1] h (0, 0) (q_i Q) := by
  unfold f_X11_fires_30 at hw
  refine G_ior dX11_fires_30 ?_
  refine G.topi fun v1 ev1 => ?_
  have hw := wp_bd hw v1 ev1
  refine G_istore_n (lv' := [some (.ref l0), some (.int v1), some (.int l2)]) dX11_fires_31 (Nat.le_of_ble_eq_true rfl) rfl ?_
  obtain ⟨v2, ev2⟩ : ∃ z : Int32, z = l2 + (1 : Int32) := ⟨_, rfl⟩
  have hw := wp_bd hw v2 ev2
  refine G_iinc (v := v2) (lv' := [some (.ref l0), some (.int v1), some (.int v2)]) dX11_fires_32 rfl (by rw [ev2]; rfl) (Nat.le_of_ble_eq_true rfl) rfl ?_
  refine G_goto (tgt := 4) dX11_fires_35 rfl ?_
  refine G.less [some (.ref l0), some (.int v1), some (.int v2)] ⟨rfl, ⟨rfl, ⟨rfl, trivial⟩⟩⟩ ?_
  exact hK_4 _ _ _ h Q hw
set_option maxHeartbeats 4000000 in
set_option maxRecDepth 100000 in
theorem f_X11_fires_4_bok {Γ : GX} (hs : SF Γ) {N : Nat} {K_4 : Nat → Int32 → Int32 → PH → Option (Int32 × PH)} (hK_4 : ∀ (l0 : Nat) (l1 : Int32) (l2 : Int32) (h : PH) (Q : Int32 → PH → Prop), wp (K_4 l0 l1 l2 h) Q → G Γ yX11_fires cX11_fires 3 (some .int) (2, 0, 0) 4 [some (.ref l0), some (.int l1), some (.int l2)] [] h (0, 0) (q_i Q)) (l0 : Nat) (l1 : Int32) (l2 : Int32) (h : PH) (Q : Int32 → PH → Prop) (hw : wp (f_X11_fires_4_b N K_4 l0 l1 l2 h) Q) : G Γ yX11_fires cX11_fires 3 (some .int) (2, 0, 0) 4 [some (.ref l0), some (.int l1), some (.int l2)] [] h (0, 0) (q_i Q) := by
  unfold f_X11_fires_4_b at hw
  refine G_iload_n dX11_fires_4 rfl ?_
  refine G_aload_n dX11_fires_5 rfl ?_
  obtain ⟨c1, hw⟩ := wp_ck hw
  refine G_getR fl_X11_valley w_1403 dX11_fires_6 c1 ?_
  obtain ⟨a2, ea2, hw⟩ := wp_rq hw
  refine G.sure ea2 ?_
  refine G_iconst (v := (2 : Int32)) dX11_fires_9 (by decide) ?_
  obtain ⟨c3, hw⟩ := wp_ck hw
  obtain ⟨c4, hw⟩ := wp_ck hw
  refine G_ialoadK (k := 2) dX11_fires_10 c3 (by decide) rfl c4 ?_
  have hw := wp_if hw
  refine G_icmp_ge (tgt := 38) dX11_fires_11 rfl (fun c5 => ?_) (fun c5 => ?_)
  · have hw := hw.1 c5
    refine G_iload_n dX11_fires_38 rfl ?_
    exact G_ireturn rfl dX11_fires_39 ⟨_, rfl, wp_ret hw⟩
  · have hw := hw.2 c5
    refine G_iload_n dX11_fires_14 rfl ?_
    refine G_aload_n dX11_fires_15 rfl ?_
    refine G_iload_n dX11_fires_16 rfl ?_
    refine G_callV (As := [.int l2]) (s_X11_isFire hs l0 l2 h _ (wp_cl hw)) ca_X11_isFire w_1806 w_81 (ci := 10) rfl (by decide) w_1804 c1 (Nat.le_of_ble_eq_true rfl) (Nat.le_of_ble_eq_true rfl) rfl (Nat.le_of_ble_eq_true rfl) (Nat.le_of_ble_eq_true rfl) (Nat.le_of_ble_eq_true rfl) dX11_fires_17 rfl (fun v h7 hq => ?_)
    obtain ⟨r6, rfl, hw⟩ := hq
    refine G.cse (cs' := (0, 0)) rfl ?_
    show GZ _ _ _ _ _ _ _ 20 _ (.int r6 :: [.int l1]) _ _
    have hw := wp_if hw
    refine G_if_eq (tgt := 29) dX11_fires_20 rfl (fun c8 => ?_) (fun c8 => ?_)
    · have hw := hw.1 c8
      refine G_iconst (v := (0 : Int32)) dX11_fires_29 (by decide) ?_
      refine G.less [some (.ref l0), none, some (.int l2)] ⟨rfl, ⟨rfl, trivial⟩⟩ ?_
      exact f_X11_fires_30_ok hs hK_4 _ _ _ _ h7 Q hw
    · have hw := hw.2 c8
      refine G_iconst (v := (1 : Int32)) dX11_fires_23 (by decide) ?_
      refine G_iload_n dX11_fires_24 rfl ?_
      refine G_ishl dX11_fires_25 ?_
      refine G_goto (tgt := 30) dX11_fires_26 rfl ?_
      refine G.less [some (.ref l0), none, some (.int l2)] ⟨rfl, ⟨rfl, trivial⟩⟩ ?_
      exact f_X11_fires_30_ok hs hK_4 _ _ _ _ h7 Q hw
theorem f_X11_fires_4_ok {Γ : GX} (hs : SF Γ) {N : Nat} : ∀ (n : Nat) (l0 : Nat) (l1 : Int32) (l2 : Int32) (h : PH) (Q : Int32 → PH → Prop), wp (f_X11_fires_4 N n l0 l1 l2 h) Q → G Γ yX11_fires cX11_fires 3 (some .int) (2, 0, 0) 4 [some (.ref l0), some (.int l1), some (.int l2)] [] h (0, 0) (q_i Q)
  | 0, _, _, _, _, Q, hw => (wp_no hw).elim
  | n + 1, l0, l1, l2, h, Q, hw => f_X11_fires_4_bok (N := N) hs (f_X11_fires_4_ok (N := N) hs n) l0 l1 l2 h Q hw
set_option maxHeartbeats 4000000 in
set_option maxRecDepth 100000 in
theorem s_X11_fires {Γ : GX} (hs : SF Γ) {N : Nat} (l0 : Nat) (h : PH) (Q : Int32 → PH → Prop) (hw : wp (f_X11_fires N l0 h) Q) : Spec Γ yX11_fires cX11_fires 3 (some .int) (2, 0, 0) [.ref l0] h (q_i Q) := by
  refine Spec.of (by decide) (Nat.le_of_ble_eq_true rfl) [some (.ref l0), none, none] rfl ?_
  unfold f_X11_fires at hw
  refine G_iconst (v := (0 : Int32)) dX11_fires_0 (by decide) ?_
  refine G_istore_n (lv' := [some (.ref l0), some (.int (0 : Int32)), none]) dX11_fires_1 (Nat.le_of_ble_eq_true rfl) rfl ?_
  refine G_iconst (v := (0 : Int32)) dX11_fires_2 (by decide) ?_
  refine G_istore_n (lv' := [some (.ref l0), some (.int (0 : Int32)), some (.int (0 : Int32))]) dX11_fires_3 (Nat.le_of_ble_eq_true rfl) rfl ?_
  refine G.less [some (.ref l0), some (.int (0 : Int32)), some (.int (0 : Int32))] ⟨rfl, ⟨rfl, ⟨rfl, trivial⟩⟩⟩ ?_
  exact f_X11_fires_4_ok hs N _ _ _ h Q hw
set_option maxHeartbeats 4000000 in
set_option maxRecDepth 100000 in
theorem s_X11_count {Γ : GX} (hs : SF Γ) {N : Nat} (l0 : Nat) (l1 : Int32) (h : PH) (Q : Int32 → PH → Prop) (hw : wp (f_X11_count N l0 l1 h) Q) : Spec Γ yX11_count cX11_count 2 (some .int) (3, 0, 0) [.ref l0, .int l1] h (q_i Q) := by
  refine Spec.of (by decide) (Nat.le_of_ble_eq_true rfl) [some (.ref l0), some (.int l1)] rfl ?_
  unfold f_X11_count at hw
  refine G_aload_n dX11_count_0 rfl ?_
  refine G_iconst (v := (0 : Int32)) dX11_count_1 (by decide) ?_
  obtain ⟨c1, hw⟩ := wp_ck hw
  refine G_putI fl_X11_thrown w_1393 dX11_count_2 c1 ?_
  refine G.nmh fun h2 eh2 => ?_
  have hw := wp_bd hw h2 eh2
  refine G_iload_n dX11_count_5 rfl ?_
  refine G_iconst (v := (0 : Int32)) dX11_count_6 (by decide) ?_
  refine G_bipush (v := (13 : Int32)) dX11_count_7 (by decide) ?_
  refine G_callS (As := [.int l1, .int (0 : Int32), .int (13 : Int32)]) (s_X11_within hs l1 (0 : Int32) (13 : Int32) h2 _ (wp_cl hw)) ca_X11_within w_1686 w_1685 (Nat.le_of_ble_eq_true rfl) (Nat.le_of_ble_eq_true rfl) rfl (Nat.le_of_ble_eq_true rfl) (Nat.le_of_ble_eq_true rfl) (Nat.le_of_ble_eq_true rfl) dX11_count_9 rfl (fun v h4 hq => ?_)
  obtain ⟨r3, rfl, hw⟩ := hq
  refine G.cse (cs' := (0, 0)) rfl ?_
  show GZ _ _ _ _ _ _ _ 12 _ (.int r3 :: []) _ _
  have hw := wp_if hw
  refine G_if_ne (tgt := 17) dX11_count_12 rfl (fun c5 => ?_) (fun c5 => ?_)
  · have hw := hw.2 c5
    refine G_iload_n dX11_count_17 rfl ?_
    refine G_iconst (v := (5 : Int32)) dX11_count_18 (by decide) ?_
    have hw := wp_if hw
    refine G_icmp_ge (tgt := 29) dX11_count_19 rfl (fun c6 => ?_) (fun c6 => ?_)
    · have hw := hw.1 c6
      refine G_iload_n dX11_count_29 rfl ?_
      refine G_bipush (v := (8 : Int32)) dX11_count_30 (by decide) ?_
      have hw := wp_if hw
      refine G_icmp_ge (tgt := 73) dX11_count_32 rfl (fun c7 => ?_) (fun c7 => ?_)
      · have hw := hw.1 c7
        refine G_iload_n dX11_count_73 rfl ?_
        refine G_bipush (v := (10 : Int32)) dX11_count_74 (by decide) ?_
        have hw := wp_if hw
        refine G_icmp_ge (tgt := 97) dX11_count_76 rfl (fun c8 => ?_) (fun c8 => ?_)
        · have hw := hw.1 c8
          refine G_iload_n dX11_count_97 rfl ?_
          refine G_bipush (v := (12 : Int32)) dX11_count_98 (by decide) ?_
          have hw := wp_if hw
          refine G_icmp_ge (tgt := 125) dX11_count_100 rfl (fun c9 => ?_) (fun c9 => ?_)
          · have hw := hw.1 c9
            refine G_iload_n dX11_count_125 rfl ?_
            refine G_bipush (v := (12 : Int32)) dX11_count_126 (by decide) ?_
            have hw := wp_if hw
            refine G_icmp_ne (tgt := 138) dX11_count_128 rfl (fun c10 => ?_) (fun c10 => ?_)
            · have hw := hw.2 c10
              refine G_aload_n dX11_count_138 rfl ?_
              obtain ⟨c11, hw⟩ := wp_ck hw
              refine G_getI fl_X11_taped w_1394 dX11_count_139 c11 ?_
              exact G_ireturn rfl dX11_count_142 ⟨_, rfl, wp_ret hw⟩
            · have hw := hw.1 c10
              refine G_aload_n dX11_count_131 rfl ?_
              obtain ⟨c12, hw⟩ := wp_ck hw
              refine G_getI fl_X11_done w_1447 dX11_count_132 c12 ?_
              refine G_goto (tgt := 142) dX11_count_135 rfl ?_
              exact G_ireturn rfl dX11_count_142 ⟨_, rfl, wp_ret hw⟩
          · have hw := hw.2 c9
            refine G_iload_n dX11_count_103 rfl ?_
            refine G_bipush (v := (10 : Int32)) dX11_count_104 (by decide) ?_
            have hw := wp_if hw
            refine G_icmp_ne (tgt := 118) dX11_count_106 rfl (fun c13 => ?_) (fun c13 => ?_)
            · have hw := hw.2 c13
              refine G_aload_n dX11_count_118 rfl ?_
              obtain ⟨c14, hw⟩ := wp_ck hw
              refine G_getR fl_X11_seens w_1438 dX11_count_119 c14 ?_
              obtain ⟨a15, ea15, hw⟩ := wp_rq hw
              refine G.sure ea15 ?_
              refine G_iconst (v := (0 : Int32)) dX11_count_122 (by decide) ?_
              obtain ⟨c16, hw⟩ := wp_ck hw
              obtain ⟨c17, hw⟩ := wp_ck hw
              refine G_ialoadK (k := 0) dX11_count_123 c16 (by decide) rfl c17 ?_
              exact G_ireturn rfl dX11_count_124 ⟨_, rfl, wp_ret hw⟩
            · have hw := hw.1 c13
              refine G_aload_n dX11_count_109 rfl ?_
              obtain ⟨c18, hw⟩ := wp_ck hw
              refine G_getR fl_X11_lines w_1432 dX11_count_110 c18 ?_
              obtain ⟨a19, ea19, hw⟩ := wp_rq hw
              refine G.sure ea19 ?_
              refine G_iconst (v := (0 : Int32)) dX11_count_113 (by decide) ?_
              obtain ⟨c20, hw⟩ := wp_ck hw
              obtain ⟨c21, hw⟩ := wp_ck hw
              refine G_ialoadK (k := 0) dX11_count_114 c20 (by decide) rfl c21 ?_
              refine G_goto (tgt := 124) dX11_count_115 rfl ?_
              exact G_ireturn rfl dX11_count_124 ⟨_, rfl, wp_ret hw⟩
        · have hw := hw.2 c8
          refine G_iload_n dX11_count_79 rfl ?_
          refine G_bipush (v := (8 : Int32)) dX11_count_80 (by decide) ?_
          have hw := wp_if hw
          refine G_icmp_ne (tgt := 92) dX11_count_82 rfl (fun c22 => ?_) (fun c22 => ?_)
          · have hw := hw.2 c22
            refine G_aload_n dX11_count_92 rfl ?_
            obtain ⟨c25, hw⟩ := wp_ck hw
            refine G_callV (As := []) (s_X11_sootOfAll hs l0 h4 _ (wp_cl hw)) ca_X11_sootOfAll w_1901 w_98 (ci := 10) rfl (by decide) w_1899 c25 (Nat.le_of_ble_eq_true rfl) (Nat.le_of_ble_eq_true rfl) rfl (Nat.le_of_ble_eq_true rfl) (Nat.le_of_ble_eq_true rfl) (Nat.le_of_ble_eq_true rfl) dX11_count_93 rfl (fun v h24 hq => ?_)
            obtain ⟨r23, rfl, hw⟩ := hq
            refine G.cse (cs' := (0, 0)) rfl ?_
            show GZ _ _ _ _ _ _ _ 96 _ (.int r23 :: []) _ _
            exact G_ireturn rfl dX11_count_96 ⟨_, rfl, wp_ret hw⟩
          · have hw := hw.1 c22
            refine G_aload_n dX11_count_85 rfl ?_
            obtain ⟨c28, hw⟩ := wp_ck hw
            refine G_callV (As := []) (s_X11_stocks hs l0 h4 _ (wp_cl hw)) ca_X11_stocks w_2061 w_124 (ci := 10) rfl (by decide) w_2059 c28 (Nat.le_of_ble_eq_true rfl) (Nat.le_of_ble_eq_true rfl) rfl (Nat.le_of_ble_eq_true rfl) (Nat.le_of_ble_eq_true rfl) (Nat.le_of_ble_eq_true rfl) dX11_count_86 rfl (fun v h27 hq => ?_)
            obtain ⟨r26, rfl, hw⟩ := hq
            refine G.cse (cs' := (0, 0)) rfl ?_
            show GZ _ _ _ _ _ _ _ 89 _ (.int r26 :: []) _ _
            refine G_goto (tgt := 96) dX11_count_89 rfl ?_
            exact G_ireturn rfl dX11_count_96 ⟨_, rfl, wp_ret hw⟩
      · have hw := hw.2 c7
        refine G_iload_n dX11_count_35 rfl ?_
        refine G_iconst (v := (5 : Int32)) dX11_count_36 (by decide) ?_
        have hw := wp_if hw
        refine G_icmp_ne (tgt := 49) dX11_count_37 rfl (fun c29 => ?_) (fun c29 => ?_)
        · have hw := hw.2 c29
          refine G_iload_n dX11_count_49 rfl ?_
          refine G_bipush (v := (6 : Int32)) dX11_count_50 (by decide) ?_
          have hw := wp_if hw
          refine G_icmp_ne (tgt := 68) dX11_count_52 rfl (fun c30 => ?_) (fun c30 => ?_)
          · have hw := hw.2 c30
            refine G_aload_n dX11_count_68 rfl ?_
            obtain ⟨c33, hw⟩ := wp_ck hw
            refine G_callV (As := []) (s_X11_fires hs l0 h4 _ (wp_cl hw)) ca_X11_fires w_2077 w_126 (ci := 10) rfl (by decide) w_2075 c33 (Nat.le_of_ble_eq_true rfl) (Nat.le_of_ble_eq_true rfl) rfl (Nat.le_of_ble_eq_true rfl) (Nat.le_of_ble_eq_true rfl) (Nat.le_of_ble_eq_true rfl) dX11_count_69 rfl (fun v h32 hq => ?_)
            obtain ⟨r31, rfl, hw⟩ := hq
            refine G.cse (cs' := (0, 0)) rfl ?_
            show GZ _ _ _ _ _ _ _ 72 _ (.int r31 :: []) _ _
            exact G_ireturn rfl dX11_count_72 ⟨_, rfl, wp_ret hw⟩
          · have hw := hw.1 c30
            refine G_aload_n dX11_count_55 rfl ?_
            refine G_aload_n dX11_count_56 rfl ?_
            obtain ⟨c34, hw⟩ := wp_ck hw
            refine G_getR fl_X11_s w_1442 dX11_count_57 c34 ?_
            obtain ⟨a35, ea35, hw⟩ := wp_rq hw
            refine G.sure ea35 ?_
            refine G_iconst (v := (0 : Int32)) dX11_count_60 (by decide) ?_
            obtain ⟨c36, hw⟩ := wp_ck hw
            obtain ⟨c37, hw⟩ := wp_ck hw
            refine G_ialoadK (k := 0) dX11_count_61 c36 (by decide) rfl c37 ?_
            refine G_callV (As := [.int (hI h4 a35 0)]) (s_X11_windIn hs l0 (hI h4 a35 0) h4 _ (wp_cl hw)) ca_X11_windIn w_1814 w_83 (ci := 10) rfl (by decide) w_1812 c34 (Nat.le_of_ble_eq_true rfl) (Nat.le_of_ble_eq_true rfl) rfl (Nat.le_of_ble_eq_true rfl) (Nat.le_of_ble_eq_true rfl) (Nat.le_of_ble_eq_true rfl) dX11_count_62 rfl (fun v h39 hq => ?_)
            obtain ⟨r38, rfl, hw⟩ := hq
            refine G.cse (cs' := (0, 0)) rfl ?_
            show GZ _ _ _ _ _ _ _ 65 _ (.int r38 :: []) _ _
            refine G_goto (tgt := 72) dX11_count_65 rfl ?_
            exact G_ireturn rfl dX11_count_72 ⟨_, rfl, wp_ret hw⟩
        · have hw := hw.1 c29
          refine G_aload_n dX11_count_40 rfl ?_
          obtain ⟨c40, hw⟩ := wp_ck hw
          refine G_getR fl_X11_s w_1442 dX11_count_41 c40 ?_
          obtain ⟨a41, ea41, hw⟩ := wp_rq hw
          refine G.sure ea41 ?_
          refine G_iconst (v := (0 : Int32)) dX11_count_44 (by decide) ?_
          obtain ⟨c42, hw⟩ := wp_ck hw
          obtain ⟨c43, hw⟩ := wp_ck hw
          refine G_ialoadK (k := 0) dX11_count_45 c42 (by decide) rfl c43 ?_
          refine G_goto (tgt := 72) dX11_count_46 rfl ?_
          exact G_ireturn rfl dX11_count_72 ⟨_, rfl, wp_ret hw⟩
    · have hw := hw.2 c6
      refine G_aload_n dX11_count_22 rfl ?_
      obtain ⟨c44, hw⟩ := wp_ck hw
      refine G_getR fl_X11_valley w_1403 dX11_count_23 c44 ?_
      obtain ⟨a45, ea45, hw⟩ := wp_rq hw
      refine G.sure ea45 ?_
      refine G_iload_n dX11_count_26 rfl ?_
      obtain ⟨c46, hw⟩ := wp_ck hw
      obtain ⟨c47, hw⟩ := wp_ck hw
      refine G_iaload dX11_count_27 c46 c47 ?_
      exact G_ireturn rfl dX11_count_28 ⟨_, rfl, wp_ret hw⟩
  · have hw := hw.1 c5
    refine G_iconst (v := (-1 : Int32)) dX11_count_15 (by decide) ?_
    exact G_ireturn rfl dX11_count_16 ⟨_, rfl, wp_ret hw⟩
