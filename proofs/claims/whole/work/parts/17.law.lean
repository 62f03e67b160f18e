/-! The law: the case of 'rests', the loop, the entry. -/
/-- what stands between the class's 'rests' and the reference's -/
def R_mid (o : Nat) (r : Option Int32) (h1 h2 : PH) : Prop := match r with
  | some v => h2 = sJ h1 o 0 v.toInt64
  | none => ∃ k, hz h1 ≤ k ∧ h2 = gr h1 k
def D_rests (Inv Inv' : PH → Prop) (N x yy o : Nat) : Prop := ∀ (a0 : Int32) (a1 : Int32) (a2 : Int32) (a3 : Int32) (a4 : Int32) (a5 : Int32) (h : PH), Inv h → wp (f_X10_rests N x a0 a1 a2 a3 a4 a5 h) (fun r h1 => (hK h1 o = 14 ∧ 0 < hN h1 o) ∧ ∀ h2, R_mid o r h1 h2 → hK h2 yy = 10 ∧ wp (f_X11_rests N yy a0 a1 a2 a3 a4 a5 h2) (fun r2 h3 => hK h3 yy = 10 ∧ wp (f_X11_thrown N yy h3) (fun r3 h4 => (r = none → r3 = 1) ∧ (∀ v, r = some v → r3 = 0 ∧ r2 = v ∧ hJ h4 o 0 = v.toInt64 ∧ hK h4 o = 14 ∧ 0 < hN h4 o) ∧ Inv' h4)))
theorem l_cmp0 (a : Int64) : lg_cmp a a = 0 := by simp [lg_cmp, Int64.lt_irrefl]
set_option maxHeartbeats 4000000 in
set_option maxRecDepth 100000 in
theorem lc_rests {Γ : GX} (hs : SF Γ) {N x yy o b L : Nat} {xs : Nat → Int32} {Inv Inv' : PH → Prop} (hX : va_X b L xs Γ.2.1 Γ.2.1.heap) (hbl : b < Γ.2.1.heap.size) (hIK : ∀ h, Inv h → hK h x = 9 ∧ hK h yy = 10) (ht : TF Γ) (hP : D_rests Inv Inv' N x yy o) {i : Int32} (hi1 : inb (i + (1 : Int32)) L) (hi2 : inb (i + (2 : Int32)) L) (hi3 : inb (i + (3 : Int32)) L) (hi4 : inb (i + (4 : Int32)) L) (hi5 : inb (i + (5 : Int32)) L) (hi6 : inb (i + (6 : Int32)) L) {cn sn : Nat} (hcn : cn + 2 ≤ 601024) (hsn : sn + 12 ≤ 7293034) {h : PH} (hInv : Inv h) (hk : ∀ h2, Inv' h2 → LG Γ 1122 b x yy o i h2 (cn + 2, sn + 12)) : LG Γ 877 b x yy o i h (cn, sn) := by
  refine G_aload_n dL_law_877 rfl ?_
  refine G_aload_n dL_law_878 rfl ?_
  refine G_iload dL_law_879 rfl ?_
  refine G_iconst (v := (1 : Int32)) dL_law_881 (by decide) ?_
  refine G_iadd dL_law_882 ?_
  refine G_sld hX hbl hi1 dL_law_883 ?_
  refine G_aload_n dL_law_884 rfl ?_
  refine G_iload dL_law_885 rfl ?_
  refine G_iconst (v := (2 : Int32)) dL_law_887 (by decide) ?_
  refine G_iadd dL_law_888 ?_
  refine G_sld hX hbl hi2 dL_law_889 ?_
  refine G_aload_n dL_law_890 rfl ?_
  refine G_iload dL_law_891 rfl ?_
  refine G_iconst (v := (3 : Int32)) dL_law_893 (by decide) ?_
  refine G_iadd dL_law_894 ?_
  refine G_sld hX hbl hi3 dL_law_895 ?_
  refine G_aload_n dL_law_896 rfl ?_
  refine G_iload dL_law_897 rfl ?_
  refine G_iconst (v := (4 : Int32)) dL_law_899 (by decide) ?_
  refine G_iadd dL_law_900 ?_
  refine G_sld hX hbl hi4 dL_law_901 ?_
  refine G_aload_n dL_law_902 rfl ?_
  refine G_iload dL_law_903 rfl ?_
  refine G_iconst (v := (5 : Int32)) dL_law_905 (by decide) ?_
  refine G_iadd dL_law_906 ?_
  refine G_sld hX hbl hi5 dL_law_907 ?_
  refine G_aload_n dL_law_908 rfl ?_
  refine G_iload dL_law_909 rfl ?_
  refine G_bipush (v := (6 : Int32)) dL_law_911 (by decide) ?_
  refine G_iadd dL_law_913 ?_
  refine G_sld hX hbl hi6 dL_law_914 ?_
  refine G_aload_n dL_law_915 rfl ?_
  have hw := hP (xs (ix (i + (1 : Int32)))) (xs (ix (i + (2 : Int32)))) (xs (ix (i + (3 : Int32)))) (xs (ix (i + (4 : Int32)))) (xs (ix (i + (5 : Int32)))) (xs (ix (i + (6 : Int32)))) h hInv
  refine G_callSW (As := [.ref x, .int (xs (ix (i + (1 : Int32)))), .int (xs (ix (i + (2 : Int32)))), .int (xs (ix (i + (3 : Int32)))), .int (xs (ix (i + (4 : Int32)))), .int (xs (ix (i + (5 : Int32)))), .int (xs (ix (i + (6 : Int32)))), .ref o]) (rb2 := (100, 1, 6)) (s_L_rests hs ht (xs (ix (i + (1 : Int32)))) (xs (ix (i + (2 : Int32)))) (xs (ix (i + (3 : Int32)))) (xs (ix (i + (4 : Int32)))) (xs (ix (i + (5 : Int32)))) (xs (ix (i + (6 : Int32)))) h _ hw (hIK h hInv).1 (fun r h1 q => q.1)) w_cwL w_127 ⟨by decide, by decide⟩ (by show _ = some 8; decide +kernel) w_1292 w_1291 (Nat.le_of_ble_eq_true rfl) (Nat.le_of_ble_eq_true rfl) rfl (Nat.le_of_ble_eq_true rfl) (by show _ + _ ≤ 601024; simp only []; omega) (by show _ + _ ≤ 7293034; simp only []; omega) dL_law_916 rfl (fun v h2 hq => ?_)
  refine G.cse (cs' := (cn + 1, sn + 6)) rfl ?_
  obtain ⟨r, h1, kv, hv, hmid, hw⟩ : ∃ (r : Option Int32) (h1 : PH) (kv : Int32), v = some (.int kv) ∧ ((r = none ∧ kv = 1) ∨ (∃ z, r = some z ∧ kv = 0)) ∧ (hK h2 yy = 10 ∧ wp (f_X11_rests N yy (xs (ix (i + (1 : Int32)))) (xs (ix (i + (2 : Int32)))) (xs (ix (i + (3 : Int32)))) (xs (ix (i + (4 : Int32)))) (xs (ix (i + (5 : Int32)))) (xs (ix (i + (6 : Int32)))) h2) (fun r2 h3 => hK h3 yy = 10 ∧ wp (f_X11_thrown N yy h3) (fun r3 h4 => (r = none → r3 = 1) ∧ (∀ v, r = some v → r3 = 0 ∧ r2 = v ∧ hJ h4 o 0 = v.toInt64 ∧ hK h4 o = 14 ∧ 0 < hN h4 o) ∧ Inv' h4))) := by
    rcases hq with ⟨h1, kk, hv, hkk, hq, rfl⟩ | ⟨z, h1, hv, hq, rfl⟩
    · exact ⟨none, h1, 1, hv, Or.inl ⟨rfl, rfl⟩, hq.2 _ ⟨kk, hkk, rfl⟩⟩
    · exact ⟨some z, h1, 0, hv, Or.inr ⟨z, rfl, rfl⟩, hq.2 _ rfl⟩
  subst hv
  obtain ⟨hy, hw⟩ := hw
  show GZ _ _ _ _ _ _ _ 919 _ [.int kv] _ _
  refine G_istore (lv' := [some (.ref b), some (.ref x), some (.ref yy), some (.ref o), some (.int i), some (.int kv), none]) dL_law_919 (Nat.le_of_ble_eq_true rfl) rfl ?_
  refine G_aload_n dL_law_921 rfl ?_
  refine G_aload_n dL_law_922 rfl ?_
  refine G_iload dL_law_923 rfl ?_
  refine G_iconst (v := (1 : Int32)) dL_law_925 (by decide) ?_
  refine G_iadd dL_law_926 ?_
  refine G_sld hX hbl hi1 dL_law_927 ?_
  refine G_aload_n dL_law_928 rfl ?_
  refine G_iload dL_law_929 rfl ?_
  refine G_iconst (v := (2 : Int32)) dL_law_931 (by decide) ?_
  refine G_iadd dL_law_932 ?_
  refine G_sld hX hbl hi2 dL_law_933 ?_
  refine G_aload_n dL_law_934 rfl ?_
  refine G_iload dL_law_935 rfl ?_
  refine G_iconst (v := (3 : Int32)) dL_law_937 (by decide) ?_
  refine G_iadd dL_law_938 ?_
  refine G_sld hX hbl hi3 dL_law_939 ?_
  refine G_aload_n dL_law_940 rfl ?_
  refine G_iload dL_law_941 rfl ?_
  refine G_iconst (v := (4 : Int32)) dL_law_943 (by decide) ?_
  refine G_iadd dL_law_944 ?_
  refine G_sld hX hbl hi4 dL_law_945 ?_
  refine G_aload_n dL_law_946 rfl ?_
  refine G_iload dL_law_947 rfl ?_
  refine G_iconst (v := (5 : Int32)) dL_law_949 (by decide) ?_
  refine G_iadd dL_law_950 ?_
  refine G_sld hX hbl hi5 dL_law_951 ?_
  refine G_aload_n dL_law_952 rfl ?_
  refine G_iload dL_law_953 rfl ?_
  refine G_bipush (v := (6 : Int32)) dL_law_955 (by decide) ?_
  refine G_iadd dL_law_957 ?_
  refine G_sld hX hbl hi6 dL_law_958 ?_
  refine G_callV (As := [.int (xs (ix (i + (1 : Int32)))), .int (xs (ix (i + (2 : Int32)))), .int (xs (ix (i + (3 : Int32)))), .int (xs (ix (i + (4 : Int32)))), .int (xs (ix (i + (5 : Int32)))), .int (xs (ix (i + (6 : Int32))))]) (rb2 := (11, 0, 0)) (s_X11_rests hs yy (xs (ix (i + (1 : Int32)))) (xs (ix (i + (2 : Int32)))) (xs (ix (i + (3 : Int32)))) (xs (ix (i + (4 : Int32)))) (xs (ix (i + (5 : Int32)))) (xs (ix (i + (6 : Int32)))) h2 _ hw) ca_X11_rests w_2032 w_2033 (ci := 10) rfl (by decide) w_2031 hy (Nat.le_of_ble_eq_true rfl) (Nat.le_of_ble_eq_true rfl) rfl (Nat.le_of_ble_eq_true rfl) (by show _ + _ ≤ 601024; simp only []; omega) (by show _ + _ ≤ 7293034; simp only []; omega) dL_law_959 rfl (fun v h3 hq => ?_)
  obtain ⟨r2, rfl, hw⟩ := hq
  refine G.cse (cs' := (cn + 1, sn + 6)) rfl ?_
  obtain ⟨hy, hw⟩ := hw
  show GZ _ _ _ _ _ _ _ 962 _ [.int r2] _ _
  refine G_istore (lv' := [some (.ref b), some (.ref x), some (.ref yy), some (.ref o), some (.int i), some (.int kv), some (.int r2)]) dL_law_962 (Nat.le_of_ble_eq_true rfl) rfl ?_
  refine G_aload_n dL_law_964 rfl ?_
  refine G_callV (As := []) (rb2 := (1, 0, 0)) (s_X11_thrown hs yy  h3 _ hw) ca_X11_thrown w_1594 w_1595 (ci := 10) rfl (by decide) w_1593 hy (Nat.le_of_ble_eq_true rfl) (Nat.le_of_ble_eq_true rfl) rfl (Nat.le_of_ble_eq_true rfl) (by show _ + _ ≤ 601024; simp only []; omega) (by show _ + _ ≤ 7293034; simp only []; omega) dL_law_965 rfl (fun v h4 hq => ?_)
  obtain ⟨r3, rfl, hw⟩ := hq
  refine G.cse (cs' := (cn + 1, sn + 6)) rfl ?_
  obtain ⟨hn1, hn2, hInv⟩ := hw
  show GZ _ _ _ _ _ _ _ 968 _ [.int r3] _ _
  refine G_iload dL_law_968 rfl ?_
  have hfin : LG Γ 1122 b x yy o i h4 (cn + 1, sn + 6) := G.wid (by simp only []; omega) (by simp only []; omega) (hk h4 hInv)
  rcases hmid with ⟨rfl, rfl⟩ | ⟨z, rfl, rfl⟩
  · have e3 := hn1 rfl
    subst e3
    refine G_icmp_eq (tgt := 975) dL_law_970 rfl (fun _ => ?_) (fun q => absurd rfl q)
    refine G_iload dL_law_975 rfl ?_
    refine G_if_ne (tgt := 992) dL_law_977 rfl (fun _ => ?_) (fun q => absurd q (by decide))
    refine G_goto (tgt := 1122) dL_law_992 rfl ?_
    refine G.less [some (.ref b), some (.ref x), some (.ref yy), some (.ref o), some (.int i), none, none] ⟨rfl, ⟨rfl, ⟨rfl, ⟨rfl, ⟨rfl, trivial⟩⟩⟩⟩⟩ ?_
    exact hfin
  · obtain ⟨e3, e2, eJ, o1, o2⟩ := hn2 z rfl
    subst e3
    subst e2
    refine G_icmp_eq (tgt := 975) dL_law_970 rfl (fun _ => ?_) (fun q => absurd rfl q)
    refine G_iload dL_law_975 rfl ?_
    refine G_if_ne (tgt := 992) dL_law_977 rfl (fun q => absurd rfl q) (fun _ => ?_)
    refine G_aload_n dL_law_980 rfl ?_
    refine G_iconst (v := (0 : Int32)) dL_law_981 (by decide) ?_
    refine G_laloadK (k := 0) dL_law_982 o1 (by decide) rfl o2 ?_
    refine G_iload dL_law_983 rfl ?_
    refine G_i2l dL_law_985 ?_
    refine G_lcmp dL_law_986 ?_
    refine G_if_eq (tgt := 992) dL_law_987 rfl (fun _ => ?_) (fun q => absurd (by rw [eJ]; exact l_cmp0 _) q)
    refine G_goto (tgt := 1122) dL_law_992 rfl ?_
    refine G.less [some (.ref b), some (.ref x), some (.ref yy), some (.ref o), some (.int i), none, none] ⟨rfl, ⟨rfl, ⟨rfl, ⟨rfl, ⟨rfl, trivial⟩⟩⟩⟩⟩ ?_
    exact hfin
/-- all duties: the class and the reference answer alike at every call -/
def Duty (Inv Inv' : PH → Prop) (N x yy o : Nat) : Prop := (∀ h, Inv h → Inv' h) ∧ D_feed Inv Inv' N x yy ∧ D_valley Inv Inv' N x yy ∧ D_day Inv Inv' N x yy ∧ D_house Inv Inv' N x yy ∧ D_flue Inv Inv' N x yy ∧ D_burn Inv Inv' N x yy ∧ D_lend Inv Inv' N x yy ∧ D_hour Inv Inv' N x yy ∧ D_undo Inv Inv' N x yy ∧ D_judged Inv Inv' N x yy ∧ D_spell Inv Inv' N x yy ∧ D_sure Inv Inv' N x yy ∧ D_hope Inv Inv' N x yy ∧ D_read Inv Inv' N x yy ∧ D_ways Inv Inv' N x yy ∧ D_ask Inv Inv' N x yy ∧ D_blur Inv Inv' N x yy ∧ D_share Inv Inv' N x yy ∧ D_given Inv Inv' N x yy ∧ D_rests Inv Inv' N x yy o ∧ D_years Inv Inv' N x yy ∧ D_mark Inv Inv' N x yy ∧ D_count Inv Inv' N x yy
set_option maxHeartbeats 4000000 in
set_option maxRecDepth 100000 in
theorem lc_switch {Γ : GX} (hs : SF Γ) {N x yy o b L : Nat} {xs : Nat → Int32} {Inv Inv' : PH → Prop} (hX : va_X b L xs Γ.2.1 Γ.2.1.heap) (hbl : b < Γ.2.1.heap.size) (hIK : ∀ h, Inv h → hK h x = 9 ∧ hK h yy = 10) (ht : TF Γ) (hD : Duty Inv Inv' N x yy o) {i v : Int32} (hi1 : inb (i + (1 : Int32)) L) (hi2 : inb (i + (2 : Int32)) L) (hi3 : inb (i + (3 : Int32)) L) (hi4 : inb (i + (4 : Int32)) L) (hi5 : inb (i + (5 : Int32)) L) (hi6 : inb (i + (6 : Int32)) L) {cn sn : Nat} (hcn : cn + 2 ≤ 601024) (hsn : sn + 12 ≤ 7293034) {h : PH} (hInv : Inv h) (hk : ∀ h2, Inv' h2 → LG Γ 1122 b x yy o i h2 (cn + 2, sn + 12)) : G Γ yL_law cL_law 7 (some .boolean) (1312, 601024, 7293034) 40 [some (.ref b), some (.ref x), some (.ref yy), some (.ref o), some (.int i), none, none] [.int v] h (cn, sn) l_q := by
  by_cases n0 : v = 0
  · refine G_tableIn (off := 108) (tgt := 148) dL_law_40 (by rw [n0]; decide) (by rw [n0]; decide) (by rw [n0]; rfl) rfl ?_
    exact lc_feed hs hX hbl hIK (hD.2.1) hi1 hi2 hi3 hi4 hi5 hi6 hcn hsn hInv hk
  by_cases n1 : v = 1
  · refine G_tableIn (off := 255) (tgt := 295) dL_law_40 (by rw [n1]; decide) (by rw [n1]; decide) (by rw [n1]; rfl) rfl ?_
    exact lc_valley hs hX hbl hIK (hD.2.2.1) hi1 hi2 hi3 hi4 hi5 hi6 hcn hsn hInv hk
  by_cases n2 : v = 2
  · refine G_tableIn (off := 268) (tgt := 308) dL_law_40 (by rw [n2]; decide) (by rw [n2]; decide) (by rw [n2]; rfl) rfl ?_
    exact lc_day hs hX hbl hIK (hD.2.2.2.1) hi1 hi2 hi3 hi4 hi5 hi6 hcn hsn hInv hk
  by_cases n3 : v = 3
  · refine G_tableIn (off := 281) (tgt := 321) dL_law_40 (by rw [n3]; decide) (by rw [n3]; decide) (by rw [n3]; rfl) rfl ?_
    exact lc_house hs hX hbl hIK (hD.2.2.2.2.1) hi1 hi2 hi3 hi4 hi5 hi6 hcn hsn hInv hk
  by_cases n4 : v = 4
  · refine G_tableIn (off := 318) (tgt := 358) dL_law_40 (by rw [n4]; decide) (by rw [n4]; decide) (by rw [n4]; rfl) rfl ?_
    exact lc_flue hs hX hbl hIK (hD.2.2.2.2.2.1) hi1 hi2 hi3 hi4 hi5 hi6 hcn hsn hInv hk
  by_cases n5 : v = 5
  · refine G_tableIn (off := 355) (tgt := 395) dL_law_40 (by rw [n5]; decide) (by rw [n5]; decide) (by rw [n5]; rfl) rfl ?_
    exact lc_burn hs hX hbl hIK (hD.2.2.2.2.2.2.1) hi1 hi2 hi3 hi4 hi5 hi6 hcn hsn hInv hk
  by_cases n6 : v = 6
  · refine G_tableIn (off := 392) (tgt := 432) dL_law_40 (by rw [n6]; decide) (by rw [n6]; decide) (by rw [n6]; rfl) rfl ?_
    exact lc_lend hs hX hbl hIK (hD.2.2.2.2.2.2.2.1) hi1 hi2 hi3 hi4 hi5 hi6 hcn hsn hInv hk
  by_cases n7 : v = 7
  · refine G_tableIn (off := 453) (tgt := 493) dL_law_40 (by rw [n7]; decide) (by rw [n7]; decide) (by rw [n7]; rfl) rfl ?_
    exact lc_hour hs hX hbl hIK (hD.2.2.2.2.2.2.2.2.1) hi1 hi2 hi3 hi4 hi5 hi6 hcn hsn hInv hk
  by_cases n8 : v = 8
  · refine G_tableIn (off := 466) (tgt := 506) dL_law_40 (by rw [n8]; decide) (by rw [n8]; decide) (by rw [n8]; rfl) rfl ?_
    exact lc_undo hs hX hbl hIK (hD.2.2.2.2.2.2.2.2.2.1) hi1 hi2 hi3 hi4 hi5 hi6 hcn hsn hInv hk
  by_cases n9 : v = 9
  · refine G_tableIn (off := 479) (tgt := 519) dL_law_40 (by rw [n9]; decide) (by rw [n9]; decide) (by rw [n9]; rfl) rfl ?_
    exact lc_judged hs hX hbl hIK (hD.2.2.2.2.2.2.2.2.2.2.1) hi1 hi2 hi3 hi4 hi5 hi6 hcn hsn hInv hk
  by_cases n10 : v = 10
  · refine G_tableIn (off := 504) (tgt := 544) dL_law_40 (by rw [n10]; decide) (by rw [n10]; decide) (by rw [n10]; rfl) rfl ?_
    exact lc_spell hs hX hbl hIK (hD.2.2.2.2.2.2.2.2.2.2.2.1) hi1 hi2 hi3 hi4 hi5 hi6 hcn hsn hInv hk
  by_cases n11 : v = 11
  · refine G_tableIn (off := 565) (tgt := 605) dL_law_40 (by rw [n11]; decide) (by rw [n11]; decide) (by rw [n11]; rfl) rfl ?_
    exact lc_sure hs hX hbl hIK (hD.2.2.2.2.2.2.2.2.2.2.2.2.1) hi1 hi2 hi3 hi4 hi5 hi6 hcn hsn hInv hk
  by_cases n12 : v = 12
  · refine G_tableIn (off := 602) (tgt := 642) dL_law_40 (by rw [n12]; decide) (by rw [n12]; decide) (by rw [n12]; rfl) rfl ?_
    exact lc_hope hs hX hbl hIK (hD.2.2.2.2.2.2.2.2.2.2.2.2.2.1) hi1 hi2 hi3 hi4 hi5 hi6 hcn hsn hInv hk
  by_cases n13 : v = 13
  · refine G_tableIn (off := 651) (tgt := 691) dL_law_40 (by rw [n13]; decide) (by rw [n13]; decide) (by rw [n13]; rfl) rfl ?_
    exact lc_read hs hX hbl hIK (hD.2.2.2.2.2.2.2.2.2.2.2.2.2.2.1) hi1 hi2 hi3 hi4 hi5 hi6 hcn hsn hInv hk
  by_cases n14 : v = 14
  · refine G_tableIn (off := 700) (tgt := 740) dL_law_40 (by rw [n14]; decide) (by rw [n14]; decide) (by rw [n14]; rfl) rfl ?_
    exact lc_ways hs hX hbl hIK (hD.2.2.2.2.2.2.2.2.2.2.2.2.2.2.2.1) hi1 hi2 hi3 hi4 hi5 hi6 hcn hsn hInv hk
  by_cases n15 : v = 15
  · refine G_tableIn (off := 725) (tgt := 765) dL_law_40 (by rw [n15]; decide) (by rw [n15]; decide) (by rw [n15]; rfl) rfl ?_
    exact lc_ask hs hX hbl hIK (hD.2.2.2.2.2.2.2.2.2.2.2.2.2.2.2.2.1) hi1 hi2 hi3 hi4 hi5 hi6 hcn hsn hInv hk
  by_cases n16 : v = 16
  · refine G_tableIn (off := 738) (tgt := 778) dL_law_40 (by rw [n16]; decide) (by rw [n16]; decide) (by rw [n16]; rfl) rfl ?_
    exact lc_blur hs hX hbl hIK (hD.2.2.2.2.2.2.2.2.2.2.2.2.2.2.2.2.2.1) hi1 hi2 hi3 hi4 hi5 hi6 hcn hsn hInv hk
  by_cases n17 : v = 17
  · refine G_tableIn (off := 775) (tgt := 815) dL_law_40 (by rw [n17]; decide) (by rw [n17]; decide) (by rw [n17]; rfl) rfl ?_
    exact lc_share hs hX hbl hIK (hD.2.2.2.2.2.2.2.2.2.2.2.2.2.2.2.2.2.2.1) hi1 hi2 hi3 hi4 hi5 hi6 hcn hsn hInv hk
  by_cases n18 : v = 18
  · refine G_tableIn (off := 800) (tgt := 840) dL_law_40 (by rw [n18]; decide) (by rw [n18]; decide) (by rw [n18]; rfl) rfl ?_
    exact lc_given hs hX hbl hIK (hD.2.2.2.2.2.2.2.2.2.2.2.2.2.2.2.2.2.2.2.1) hi1 hi2 hi3 hi4 hi5 hi6 hcn hsn hInv hk
  by_cases n19 : v = 19
  · refine G_tableIn (off := 837) (tgt := 877) dL_law_40 (by rw [n19]; decide) (by rw [n19]; decide) (by rw [n19]; rfl) rfl ?_
    exact lc_rests hs hX hbl hIK ht (hD.2.2.2.2.2.2.2.2.2.2.2.2.2.2.2.2.2.2.2.2.1) hi1 hi2 hi3 hi4 hi5 hi6 hcn hsn hInv hk
  by_cases n20 : v = 20
  · refine G_tableIn (off := 955) (tgt := 995) dL_law_40 (by rw [n20]; decide) (by rw [n20]; decide) (by rw [n20]; rfl) rfl ?_
    exact lc_years hs hX hbl hIK (hD.2.2.2.2.2.2.2.2.2.2.2.2.2.2.2.2.2.2.2.2.2.1) hi1 hi2 hi3 hi4 hi5 hi6 hcn hsn hInv hk
  by_cases n21 : v = 21
  · refine G_tableIn (off := 1004) (tgt := 1044) dL_law_40 (by rw [n21]; decide) (by rw [n21]; decide) (by rw [n21]; rfl) rfl ?_
    exact lc_mark hs hX hbl hIK (hD.2.2.2.2.2.2.2.2.2.2.2.2.2.2.2.2.2.2.2.2.2.2.1) hi1 hi2 hi3 hi4 hi5 hi6 hcn hsn hInv hk
  by_cases n22 : v = 22
  · refine G_tableIn (off := 1057) (tgt := 1097) dL_law_40 (by rw [n22]; decide) (by rw [n22]; decide) (by rw [n22]; rfl) rfl ?_
    exact lc_count hs hX hbl hIK (hD.2.2.2.2.2.2.2.2.2.2.2.2.2.2.2.2.2.2.2.2.2.2.2) hi1 hi2 hi3 hi4 hi5 hi6 hcn hsn hInv hk
  refine G_tableOut (tgt := 1122) dL_law_40 ?_ rfl ?_
  · rcases Int.lt_or_le v.toInt 0 with q | q
    · exact Or.inl q
    · refine Or.inr ?_
      have m0 : v.toInt ≠ 0 := fun q => n0 (Int32.toInt_inj.mp (by rw [q]; rfl))
      have m1 : v.toInt ≠ 1 := fun q => n1 (Int32.toInt_inj.mp (by rw [q]; rfl))
      have m2 : v.toInt ≠ 2 := fun q => n2 (Int32.toInt_inj.mp (by rw [q]; rfl))
      have m3 : v.toInt ≠ 3 := fun q => n3 (Int32.toInt_inj.mp (by rw [q]; rfl))
      have m4 : v.toInt ≠ 4 := fun q => n4 (Int32.toInt_inj.mp (by rw [q]; rfl))
      have m5 : v.toInt ≠ 5 := fun q => n5 (Int32.toInt_inj.mp (by rw [q]; rfl))
      have m6 : v.toInt ≠ 6 := fun q => n6 (Int32.toInt_inj.mp (by rw [q]; rfl))
      have m7 : v.toInt ≠ 7 := fun q => n7 (Int32.toInt_inj.mp (by rw [q]; rfl))
      have m8 : v.toInt ≠ 8 := fun q => n8 (Int32.toInt_inj.mp (by rw [q]; rfl))
      have m9 : v.toInt ≠ 9 := fun q => n9 (Int32.toInt_inj.mp (by rw [q]; rfl))
      have m10 : v.toInt ≠ 10 := fun q => n10 (Int32.toInt_inj.mp (by rw [q]; rfl))
      have m11 : v.toInt ≠ 11 := fun q => n11 (Int32.toInt_inj.mp (by rw [q]; rfl))
      have m12 : v.toInt ≠ 12 := fun q => n12 (Int32.toInt_inj.mp (by rw [q]; rfl))
      have m13 : v.toInt ≠ 13 := fun q => n13 (Int32.toInt_inj.mp (by rw [q]; rfl))
      have m14 : v.toInt ≠ 14 := fun q => n14 (Int32.toInt_inj.mp (by rw [q]; rfl))
      have m15 : v.toInt ≠ 15 := fun q => n15 (Int32.toInt_inj.mp (by rw [q]; rfl))
      have m16 : v.toInt ≠ 16 := fun q => n16 (Int32.toInt_inj.mp (by rw [q]; rfl))
      have m17 : v.toInt ≠ 17 := fun q => n17 (Int32.toInt_inj.mp (by rw [q]; rfl))
      have m18 : v.toInt ≠ 18 := fun q => n18 (Int32.toInt_inj.mp (by rw [q]; rfl))
      have m19 : v.toInt ≠ 19 := fun q => n19 (Int32.toInt_inj.mp (by rw [q]; rfl))
      have m20 : v.toInt ≠ 20 := fun q => n20 (Int32.toInt_inj.mp (by rw [q]; rfl))
      have m21 : v.toInt ≠ 21 := fun q => n21 (Int32.toInt_inj.mp (by rw [q]; rfl))
      have m22 : v.toInt ≠ 22 := fun q => n22 (Int32.toInt_inj.mp (by rw [q]; rfl))
      omega
  · exact G.wid (by simp only []; omega) (by simp only []; omega) (hk h (hD.1 h hInv))
theorem l_exit {L j : Nat} (hL : L ≤ 3584) (hj : 7 * j ≤ L + 6) (h : ¬ Int32.ofNat L - 7 < nI (7 * j)) : 7 * j + 7 ≤ L := by
  rw [Int32.lt_iff_toInt_lt, nI_toInt (by omega), Int32.toInt_sub, show (Int32.ofNat L).toInt = (L : Int) from nI_toInt (by omega)] at h
  rw [show (7 : Int32).toInt = 7 from rfl] at h
  simp only [Int.bmod] at h
  split at h <;> omega
theorem l_in {L j : Nat} (hL : L ≤ 3584) (hj : 7 * j + 7 ≤ L) (k : Nat) (hk : k < 7) : inb (nI (7 * j) + nI k) L := by
  rw [nI_add]
  exact vp_in_nI (by omega) (by omega)
set_option maxHeartbeats 4000000 in
set_option maxRecDepth 100000 in
theorem law_loop {Γ : GX} (hs : SF Γ) {N x yy o b L : Nat} {xs : Nat → Int32} {Inv : Nat → PH → Prop} (hX : va_X b L xs Γ.2.1 Γ.2.1.heap) (hbl : b < Γ.2.1.heap.size) (hIK : ∀ j h, Inv j h → hK h x = 9 ∧ hK h yy = 10) (ht : TF Γ) (hD : ∀ j, j < 512 → Duty (Inv j) (Inv (j + 1)) N x yy o) (hL : L ≤ 3584) {c0 s0 : Nat} (hc0 : c0 ≤ 500000) (hs0 : s0 ≤ 7000000) : ∀ (n j : Nat) (h : PH), L + 7 ≤ 7 * (n + j) → 7 * j ≤ L + 6 → Inv j h → LG Γ 23 b x yy o (nI (7 * j)) h (c0 + 2 * j, s0 + 12 * j)
  | 0, j, h, hn, hj, hInv => by omega
  | n + 1, j, h, hn, hj, hInv => by
    refine G_iload dL_law_23 rfl ?_
    refine G_aload_n dL_law_25 rfl ?_
    refine G_slen0 hX hbl dL_law_26 ?_
    refine G_bipush (v := (7 : Int32)) dL_law_27 (by decide) ?_
    refine G_isub dL_law_29 ?_
    refine G_icmp_gt (tgt := 1128) dL_law_30 rfl (fun c => ?_) (fun c => ?_)
    · refine G_iconst (v := (1 : Int32)) dL_law_1128 (by decide) ?_
      exact G_zreturn rfl dL_law_1129 rfl rfl (by simp only []; omega) (by simp only []; omega)
    · have hj7 := l_exit hL hj c
      refine G_aload_n dL_law_33 rfl ?_
      refine G_iload dL_law_34 rfl ?_
      refine G_sld hX hbl (vp_in_nI (by omega) (by omega)) dL_law_36 ?_
      refine G_bipush (v := (31 : Int32)) dL_law_37 (by decide) ?_
      refine G_iand dL_law_39 ?_
      refine lc_switch hs hX hbl (hIK j) ht (hD j (by omega)) (l_in hL hj7 1 (by decide)) (l_in hL hj7 2 (by decide)) (l_in hL hj7 3 (by decide)) (l_in hL hj7 4 (by decide)) (l_in hL hj7 5 (by decide)) (l_in hL hj7 6 (by decide)) (by omega) (by omega) hInv (fun h2 hI2 => ?_)
      refine G_iinc (v := nI (7 * (j + 1))) (lv' := [some (.ref b), some (.ref x), some (.ref yy), some (.ref o), some (.int (nI (7 * (j + 1)))), none, none]) dL_law_1122 rfl (by show nI (7 * j) + nI 7 = _; rw [nI_add]; congr 1) (Nat.le_of_ble_eq_true rfl) rfl ?_
      refine G_goto (tgt := 23) dL_law_1125 rfl ?_
      refine G.cse (cs' := (c0 + 2 * (j + 1), s0 + 12 * (j + 1))) (by simp only [Prod.mk.injEq]; omega) ?_
      exact law_loop hs hX hbl hIK ht hD hL hc0 hs0 n (j + 1) h2 (by omega) (by omega) hI2
/-- what the two constructors owe: INV holds behind them -/
def D_init (INV : Nat → Nat → Nat → Nat → PH → Prop) (N : Nat) (h0 : PH) : Prop := wp (f_X10_init N (hz h0) (nwh h0 9 0)) (fun _ h1 => wp (f_X11_init N (hz h1) (nwh h1 10 0)) (fun _ h2 => INV (hz h0) (hz h1) (hz h2) 0 (nwh h2 14 1)))
set_option maxHeartbeats 4000000 in
set_option maxRecDepth 100000 in
theorem law_entry {Γ : GX} (hs : SF Γ) (ht : TF Γ) {N b L : Nat} {xs : Nat → Int32} {INV : Nat → Nat → Nat → Nat → PH → Prop} (hX : va_X b L xs Γ.2.1 Γ.2.1.heap) (hbl : b < Γ.2.1.heap.size) (hIK : ∀ x yy o j h, INV x yy o j h → hK h x = 9 ∧ hK h yy = 10) (hD : ∀ x yy o j, j < 512 → Duty (INV x yy o j) (INV x yy o (j + 1)) N x yy o) (hL : L ≤ 3584) (h0 : PH) (h0i : D_init INV N h0) : G Γ yL_law cL_law 7 (some .boolean) (1312, 601024, 7293034) 0 [some (.ref b), none, none, none, none, none, none] [] h0 (0, 0) l_q := by
  unfold D_init at h0i
  obtain ⟨x, ex⟩ : ∃ z : Nat, z = hz h0 := ⟨_, rfl⟩
  rw [← ex] at h0i
  refine G_new kl_X10 w_154 dL_law_0 (Nat.le_of_ble_eq_true rfl) (Nat.le_of_ble_eq_true rfl) ?_
  rw [← ex]
  refine G.cse (cs' := (1, 15)) rfl ?_
  refine G_dup dL_law_3 rfl ?_
  refine G_callI (As := []) (rb2 := (4, 202, 13135)) (s_X10_init hs x _ _ h0i) ca_X10_init rfl w_157 w_156 (Nat.le_of_ble_eq_true rfl) (Nat.le_of_ble_eq_true rfl) rfl (Nat.le_of_ble_eq_true rfl) (Nat.le_of_ble_eq_true rfl) (Nat.le_of_ble_eq_true rfl) dL_law_4 rfl (fun v h1 hq => ?_)
  obtain ⟨rfl, hw⟩ := hq
  refine G.cse (cs' := (203, 13150)) rfl ?_
  show GZ _ _ _ _ _ _ _ 7 _ [.ref x] _ _
  refine G_astore_n (lv' := [some (.ref b), some (.ref x), none, none, none, none, none]) dL_law_7 (Nat.le_of_ble_eq_true rfl) rfl ?_
  obtain ⟨yy, ey⟩ : ∃ z : Nat, z = hz h1 := ⟨_, rfl⟩
  rw [← ey] at hw
  refine G_new kl_X11 w_1382 dL_law_8 (Nat.le_of_ble_eq_true rfl) (Nat.le_of_ble_eq_true rfl) ?_
  rw [← ey]
  refine G.cse (cs' := (204, 13216)) rfl ?_
  refine G_dup dL_law_11 rfl ?_
  refine G_callI (As := []) (rb2 := (3, 47, 6407)) (s_X11_init hs yy _ _ hw) ca_X11_init rfl w_1385 w_1384 (Nat.le_of_ble_eq_true rfl) (Nat.le_of_ble_eq_true rfl) rfl (Nat.le_of_ble_eq_true rfl) (Nat.le_of_ble_eq_true rfl) (Nat.le_of_ble_eq_true rfl) dL_law_12 rfl (fun v h2 hq => ?_)
  obtain ⟨rfl, hw⟩ := hq
  refine G.cse (cs' := (251, 19623)) rfl ?_
  show GZ _ _ _ _ _ _ _ 15 _ [.ref yy] _ _
  refine G_astore_n (lv' := [some (.ref b), some (.ref x), some (.ref yy), none, none, none, none]) dL_law_15 (Nat.le_of_ble_eq_true rfl) rfl ?_
  refine G_iconst (v := (1 : Int32)) dL_law_16 (by decide) ?_
  obtain ⟨o, eo⟩ : ∃ z : Nat, z = hz h2 := ⟨_, rfl⟩
  rw [← eo] at hw
  refine G_newarray14 (n := 1) dL_law_17 w_425 (by decide) rfl (Nat.le_of_ble_eq_true rfl) (Nat.le_of_ble_eq_true rfl) (Nat.le_of_ble_eq_true rfl) ?_
  rw [← eo]
  refine G.cse (cs' := (252, 19624)) rfl ?_
  refine G_astore_n (lv' := [some (.ref b), some (.ref x), some (.ref yy), some (.ref o), none, none, none]) dL_law_19 (Nat.le_of_ble_eq_true rfl) rfl ?_
  refine G_iconst (v := (0 : Int32)) dL_law_20 (by decide) ?_
  refine G_istore (lv' := [some (.ref b), some (.ref x), some (.ref yy), some (.ref o), some (.int (nI (7 * 0))), none, none]) dL_law_21 (Nat.le_of_ble_eq_true rfl) rfl ?_
  exact law_loop hs hX hbl (Inv := INV x yy o) (hIK x yy o) ht (hD x yy o) hL (c0 := 252) (s0 := 19624) (Nat.le_of_ble_eq_true rfl) (Nat.le_of_ble_eq_true rfl) (L + 1) 0 _ (by omega) (by omega) hw
