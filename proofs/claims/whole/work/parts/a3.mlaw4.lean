/-! Where reading a law's sums ends. -/
section LEN
variable {X : TX} {o : Bool} {e : Nat} {q : QS}
theorem nsg {s : ZS} {c : Nat} (h : s.1 ≠ 0) : ¬ sSg X s c = true := fun z => h (sSg_i.mp z).1
theorem nwd {s : ZS} {c : Nat} (h : s.1 ≠ 0) : ¬ sWd X s c = true := fun z => h (sWd_i.mp z).1
theorem pr_more {P : QS → QS} {k : Int32} {r : Nat} (rs : ∀ q', q'.1.2 ≤ X.1 → RsP X GT0 q' (P q')) (l : q.1.2 ≤ X.1) (c0 : q.1.1 = 0) (ht : xty X q.1.2 ≠ 0) (z : (qC k (P (qN X r q))).1.1 = 0) : q.1.2 < (qC k (P (qN X r q))).1.2 ∧ (qC k (P (qN X r q))).1.2 ≤ X.1 := by
  rw [qC_0] at z ⊢
  have gt := xnx_gt' ht
  have e1 : (qN X r q).1 = (0, xnx X q.1.2) := stp_0 c0
  obtain ⟨r1, C2, R2, r2, r3, r4, r5, r6, r7, r8, -⟩ := rs (qN X r q) (by rw [e1]; exact xnx_le l) z
  rw [e1] at r6
  have r6 : C2.length + xnx X q.1.2 ≤ (P (qN X r q)).1.2 := r6
  omega
theorem pr_one {P : QS → QS} (rs : ∀ q', q'.1.2 ≤ X.1 → RsP X GT0 q' (P q')) (l : q.1.2 ≤ X.1) (z : (P q).1.1 = 0) : q.1.2 < (P q).1.2 ∧ (P q).1.2 ≤ X.1 := by
  obtain ⟨r1, C2, R2, r2, r3, r4, r5, r6, r7, r8, -⟩ := rs q l z
  omega
theorem gPL_e : ∀ n (q : QS), q.1.2 ≤ X.1 → X.1 < n + q.1.2 → ¬ sSg X (gPL X (gPart X o e) n q).1 42 = true
  | 0, q, l, h => by omega
  | n + 1, q, l, h => by
    unfold gPL
    by_cases c : sSg X q.1 42 = true
    · rw [if_pos c]
      by_cases z : (qC (-13) (gPart X o e (qN X 22 q))).1.1 = 0
      · have := pr_more gT_pr l (sSg_i.mp c).1 (sSg_t c) z
        exact gPL_e n _ this.2 (by omega)
      · rw [gPL_z z]; exact nsg z
    · rw [if_neg c]; exact c
theorem gProd_e (ok : TXok X) (l : q.1.2 ≤ X.1) : ¬ sSg X (gProd X (gPart X o e) q).1 42 = true := by
  have := ok.1
  unfold gProd
  by_cases z : (gPart X o e q).1.1 = 0
  · have := pr_one gT_pr l z
    exact gPL_e 1000 _ this.2 (by omega)
  · rw [gPL_z z]; exact nsg z
theorem gSL_e (ok : TXok X) : ∀ n (q : QS), q.1.2 ≤ X.1 → X.1 < n + q.1.2 → ¬ sSg X q.1 42 = true → ¬ sSg X (gSL X (gPart X o e) n q).1 42 = true ∧ ¬ sSg X (gSL X (gPart X o e) n q).1 43 = true ∧ ¬ sSg X (gSL X (gPart X o e) n q).1 45 = true
  | 0, q, l, h, _ => by omega
  | n + 1, q, l, h, h42 => by
    unfold gSL
    have go : ∀ (k : Int32) (r : Nat), q.1.1 = 0 → xty X q.1.2 ≠ 0 → ¬ sSg X (gSL X (gPart X o e) n (qC k (gProd X (gPart X o e) (qN X r q)))).1 42 = true ∧ ¬ sSg X (gSL X (gPart X o e) n (qC k (gProd X (gPart X o e) (qN X r q)))).1 43 = true ∧ ¬ sSg X (gSL X (gPart X o e) n (qC k (gProd X (gPart X o e) (qN X r q)))).1 45 = true := fun k r c0 ht => by
      by_cases z : (qC k (gProd X (gPart X o e) (qN X r q))).1.1 = 0
      · have := pr_more gT_pd l c0 ht z
        refine gSL_e ok n _ this.2 (by omega) ?_
        rw [qC_0]
        exact gProd_e ok (by rw [show (qN X r q).1 = (0, xnx X q.1.2) from stp_0 c0]; exact xnx_le l)
      · rw [gSL_z z]; exact ⟨nsg z, nsg z, nsg z⟩
    by_cases c : sSg X q.1 43 = true
    · rw [if_pos c]
      exact go _ _ (sSg_i.mp c).1 (sSg_t c)
    rw [if_neg c]
    by_cases c2 : sSg X q.1 45 = true
    · rw [if_pos c2]
      exact go _ _ (sSg_i.mp c2).1 (sSg_t c2)
    · rw [if_neg c2]; exact ⟨h42, c, c2⟩
theorem gSum_e (ok : TXok X) (l : q.1.2 ≤ X.1) : ¬ sSg X (gSum X (gPart X o e) q).1 42 = true ∧ ¬ sSg X (gSum X (gPart X o e) q).1 43 = true ∧ ¬ sSg X (gSum X (gPart X o e) q).1 45 = true := by
  have := ok.1
  unfold gSum
  by_cases z : (gProd X (gPart X o e) q).1.1 = 0
  · have := pr_one gT_pd l z
    exact gSL_e ok 1000 _ this.2 (by omega) (gProd_e ok l)
  · rw [gSL_z z]; exact ⟨nsg z, nsg z, nsg z⟩
theorem gTest_e (ok : TXok X) (l : q.1.2 ≤ X.1) : ¬ sSg X (gTest X (gPart X o e) q).1 42 = true ∧ ¬ sSg X (gTest X (gPart X o e) q).1 43 = true ∧ ¬ sSg X (gTest X (gPart X o e) q).1 45 = true := by
  unfold gTest
  have go : ∀ (k : Int32) (r : Nat), (gSum X (gPart X o e) q).1.1 = 0 → ¬ sSg X (qC k (gSum X (gPart X o e) (qN X r (gSum X (gPart X o e) q)))).1 42 = true ∧ ¬ sSg X (qC k (gSum X (gPart X o e) (qN X r (gSum X (gPart X o e) q)))).1 43 = true ∧ ¬ sSg X (qC k (gSum X (gPart X o e) (qN X r (gSum X (gPart X o e) q)))).1 45 = true := fun k r c0 => by
    rw [qC_0]
    refine gSum_e ok ?_
    rw [show (qN X r (gSum X (gPart X o e) q)).1 = (0, xnx X (gSum X (gPart X o e) q).1.2) from stp_0 c0]
    exact xnx_le (pr_one gT_su l c0).2
  by_cases c : sSg X (gSum X (gPart X o e) q).1 60 = true
  · rw [if_pos c]; exact go _ _ (sSg_i.mp c).1
  rw [if_neg c]
  by_cases c2 : sSg X (gSum X (gPart X o e) q).1 61 = true
  · rw [if_pos c2]; exact go _ _ (sSg_i.mp c2).1
  · rw [if_neg c2]; exact gSum_e ok l
/-- no operator but < and = -/
def nOp (X : TX) (s : ZS) : Prop := ¬ sSg X s 42 = true ∧ ¬ sSg X s 43 = true ∧ ¬ sSg X s 45 = true
theorem gTL_e (ok : TXok X) : ∀ n (q : QS), q.1.2 ≤ X.1 → X.1 < n + q.1.2 → nOp X q.1 → nOp X (gTL X (gPart X o e) n q).1 ∧ ¬ sWd X (gTL X (gPart X o e) n q).1 20 = true ∧ ¬ sWd X (gTL X (gPart X o e) n q).1 21 = true
  | 0, q, l, h, _ => by omega
  | n + 1, q, l, h, h42 => by
    unfold gTL
    have go : ∀ (k : Int32) (r : Nat), q.1.1 = 0 → xty X q.1.2 ≠ 0 → nOp X (gTL X (gPart X o e) n (qC k (gTest X (gPart X o e) (qN X r q)))).1 ∧ ¬ sWd X (gTL X (gPart X o e) n (qC k (gTest X (gPart X o e) (qN X r q)))).1 20 = true ∧ ¬ sWd X (gTL X (gPart X o e) n (qC k (gTest X (gPart X o e) (qN X r q)))).1 21 = true := fun k r c0 ht => by
      by_cases z : (qC k (gTest X (gPart X o e) (qN X r q))).1.1 = 0
      · have := pr_more gT_te l c0 ht z
        refine gTL_e ok n _ this.2 (by omega) ?_
        rw [qC_0]
        exact gTest_e ok (by rw [show (qN X r q).1 = (0, xnx X q.1.2) from stp_0 c0]; exact xnx_le l)
      · rw [gTL_z z]; exact ⟨⟨nsg z, nsg z, nsg z⟩, nwd z, nwd z⟩
    by_cases c : sWd X q.1 20 = true
    · rw [if_pos c]
      exact go _ _ (sWd_i.mp c).1 (sWd_t c)
    rw [if_neg c]
    by_cases c2 : sWd X q.1 21 = true
    · rw [if_pos c2]
      exact go _ _ (sWd_i.mp c2).1 (sWd_t c2)
    · rw [if_neg c2]; exact ⟨h42, c, c2⟩
theorem gTests_e (ok : TXok X) (l : q.1.2 ≤ X.1) : nOp X (gTests X (gPart X o e) q).1 ∧ ¬ sWd X (gTests X (gPart X o e) q).1 20 = true ∧ ¬ sWd X (gTests X (gPart X o e) q).1 21 = true := by
  have := ok.1
  unfold gTests
  by_cases z : (gTest X (gPart X o e) q).1.1 = 0
  · have := pr_one gT_te l z
    exact gTL_e ok 1000 _ this.2 (by omega) (gTest_e ok l)
  · rw [gTL_z z]; exact ⟨⟨nsg z, nsg z, nsg z⟩, nwd z, nwd z⟩
end LEN
/-! The reference's law: sums of sums. -/
section MLZ
variable {N y f l d m dr e : Nat} {X : TX} {q q1 q2 : QS} {h h1 : PH} {F : Nat → Option (Int32 × PH)} {E E1 : PH → Prop}
theorem Ou.fr (a : Ou N X y f l d m q h F dr q1 E) : Ou N X y f l d m q h F dr q1 (fun h' => E h' ∧ Pl y d m (f + q.2.2.length) h h') := by
  obtain ⟨h1, k, ⟨a1, a2, a3, a4, a5, a6, a7⟩ | a⟩ := a
  · exact ⟨h1, k, Or.inl ⟨a1, a2, a3, a4, a5, ⟨a6, a3⟩, a7⟩⟩
  · exact ⟨h1, k, Or.inr a⟩
theorem Ou.em {E' : PH → Prop} (hE : ∀ h', E h' → E' h') (a : Ou N X y f l d m q h F dr q1 E) : Ou N X y f l d m q h F dr q1 E' := by
  obtain ⟨h1, k, ⟨a1, a2, a3, a4, a5, a6, a7⟩ | a⟩ := a
  · exact ⟨h1, k, Or.inl ⟨a1, a2, a3, a4, a5, hE _ a6, a7⟩⟩
  · exact ⟨h1, k, Or.inr a⟩
theorem Ou.bad (l0 : MLs X y f l h q) (h0 : q1.1.1 ≠ 0) (hr : MRs X y h1 q1.1) (hp : Pl y d m (f + q.2.2.length) h h1) (hF : ∀ n, F (n + 1) = some (0, h1)) : Ou N X y f l d m q h F dr q1 E := ⟨h1, 1, Or.inr ⟨h0, hr, hp, by have := l0.2.1.1.2.1; omega, hF⟩⟩
theorem MLs.ok (l0 : MLs X y f l h q) : TXok X := l0.2.1.1.1.2.1
theorem MLs.le (l0 : MLs X y f l h q) : q.1.2 ≤ X.1 := l0.2.1.1.2.1
def Tr : PH → Prop := fun _ => True
/-- parts to depth 5 - e are read as the reference reads them -/
def OuP (N : Nat) (X : TX) (y f l e d : Nat) : Prop := ∀ h q, MLs X y f l h q → Ou N X y f l d (d + 1) q h (fun n => f_X11_reads_11 N n y (nI d) 1 h) (popd (hI h (y + 15)) d) (gPart X (lwO l) e q) Tr
def Bs (y d : Nat) (h : PH) : Prop := popd (hI h (y + 15)) d = d
theorem Bs.pl {c : Nat} (b : Bs y d h) (p : Pl y d m c h h1) : Bs y d h1 := (popd_e d (fun j hj => p.2.2.2.2.2.1 j hj)).trans b
theorem Bs.of (b : Bs y d h) (e : hI h1 (y + 15) = hI h (y + 15)) : Bs y d h1 := by
  unfold Bs
  rw [e]
  exact b
def Cm (X : TX) (y d : Nat) (s : ZS) : PH → Prop := fun h => (sSg X s 60 = true ∨ sSg X s 61 = true) → hI h (y + 16) d = 1
section IND
theorem o_pl (hN : 2000 ≤ N) (hd : d ≤ 5) (ip : OuP N X y f l e d) : ∀ n q h, MLs X y f l h q → Bs y d h → X.1 < n + q.1.2 → Ou N X y f l d (d + 1) q h (fun n => f_X11_reads_11 N n y (nI d) 0 h) d (gPL X (gPart X (lwO l) e) n q) Tr
  | 0, q, h, l0, b, c => by have := l0.le; omega
  | n + 1, q, h, l0, b, c => by
    unfold gPL
    by_cases c1 : sSg X q.1 42 = true
    · rw [if_pos c1]
      obtain ⟨h1, a1, a2, a3, a4, a5⟩ := r_op (N := N) (d := d) (m := d + 1) hN (Or.inr (Or.inr ⟨rfl, rfl⟩)) l0 c1
      have b1 : Bs y d h1 := b.of a4
      have p1 := ip h1 _ a2
      rw [b1] at p1
      refine Ou.step (G := fun n => f_X11_reads_11 N n y (nI d) 1 h1) l0 (sSg_t c1) a1 a3 (Nat.le_refl _) (Nat.le_refl _) (Ou.bind (Nat.le_refl _) (Nat.le_refl _) (p1.c (c := -13)) (fun z => gPL_z z n) (fun h2 l2 p2 _ => ?_))
      have := (pr_more gT_pr l0.le l0.1 (sSg_t c1) l2.1).1
      exact o_pl hN hd ip n _ h2 l2 (b1.pl p2) (by omega)
    · rw [if_neg c1]
      exact Ou.rf l0 trivial
theorem o_prod (hN : 2000 ≤ N) (hd : d ≤ 5) (ip : OuP N X y f l e d) (l0 : MLs X y f l h q) (b : Bs y d h) : Ou N X y f l d (d + 1) q h (fun n => f_X11_reads_11 N n y (nI d) 1 h) d (gProd X (gPart X (lwO l) e) q) Tr := by
  have p1 := ip h _ l0
  rw [b] at p1
  refine Ou.bind (Nat.le_refl _) (Nat.le_refl _) p1 (fun z => gPL_z z 1000) (fun h2 l2 p2 _ => ?_)
  have := (pr_one gT_pr l0.le l2.1).1
  have := l0.ok.1
  exact o_pl hN hd ip 1000 _ h2 l2 (b.pl p2) (by omega)
theorem o_sl (hN : 2000 ≤ N) (hd : d ≤ 5) (ip : OuP N X y f l e d) : ∀ n q h, MLs X y f l h q → Bs y d h → X.1 < n + q.1.2 → Ou N X y f l d (d + 1) q h (fun n => f_X11_reads_11 N n y (nI d) 0 h) d (gSL X (gPart X (lwO l) e) n q) Tr
  | 0, q, h, l0, b, c => by have := l0.le; omega
  | n + 1, q, h, l0, b, c => by
    unfold gSL
    have go : ∀ (k : Int32) (r c : Nat), ((r = 20 ∧ c = 43) ∨ (r = 21 ∧ c = 45) ∨ (r = 22 ∧ c = 42)) → sSg X q.1 c = true → Ou N X y f l d (d + 1) q h (fun n => f_X11_reads_11 N n y (nI d) 0 h) d (gSL X (gPart X (lwO l) e) n (qC k (gProd X (gPart X (lwO l) e) (qN X r q)))) Tr := fun k r c hrc c1 => by
      obtain ⟨h1, a1, a2, a3, a4, a5⟩ := r_op (N := N) (d := d) (m := d + 1) hN hrc l0 c1
      have b1 : Bs y d h1 := b.of a4
      refine Ou.step (G := fun n => f_X11_reads_11 N n y (nI d) 1 h1) l0 (sSg_t c1) a1 a3 (Nat.le_refl _) (Nat.le_refl _) (Ou.bind (Nat.le_refl _) (Nat.le_refl _) ((o_prod hN hd ip a2 b1).c (c := k)) (fun z => gSL_z z n) (fun h2 l2 p2 _ => ?_))
      have := (pr_more gT_pd l0.le l0.1 (sSg_t c1) l2.1).1
      exact o_sl hN hd ip n _ h2 l2 (b1.pl p2) (by omega)
    by_cases c1 : sSg X q.1 43 = true
    · rw [if_pos c1]; exact go _ _ 43 (Or.inl ⟨rfl, rfl⟩) c1
    rw [if_neg c1]
    by_cases c2 : sSg X q.1 45 = true
    · rw [if_pos c2]; exact go _ _ 45 (Or.inr (Or.inl ⟨rfl, rfl⟩)) c2
    · rw [if_neg c2]; exact Ou.rf l0 trivial
theorem o_sum (hN : 2000 ≤ N) (hd : d ≤ 5) (ip : OuP N X y f l e d) (l0 : MLs X y f l h q) (b : Bs y d h) : Ou N X y f l d (d + 1) q h (fun n => f_X11_reads_11 N n y (nI d) 1 h) d (gSum X (gPart X (lwO l) e) q) Tr := by
  refine Ou.bind (Nat.le_refl _) (Nat.le_refl _) (o_prod hN hd ip l0 b) (fun z => gSL_z z 1000) (fun h2 l2 p2 _ => ?_)
  have := (pr_one gT_pd l0.le l2.1).1
  have := l0.ok.1
  exact o_sl hN hd ip 1000 _ h2 l2 (b.pl p2) (by omega)
theorem o_test (hN : 2000 ≤ N) (hd : d ≤ 5) (ip : OuP N X y f l e d) (l0 : MLs X y f l h q) (b : Bs y d h) (c0 : hI h (y + 16) d = 0) : Ou N X y f l d d q h (fun n => f_X11_reads_11 N n y (nI d) 1 h) d (gTest X (gPart X (lwO l) e) q) (Cm X y d (gTest X (gPart X (lwO l) e) q).1) := by
  refine Ou.bind (m := d) (Nat.le_refl d) (Nat.le_succ d) (o_sum hN hd ip l0 b).fr (fun z => ?_) (fun h2 l2 p2 ⟨_, p3⟩ => ?_)
  · unfold gTest
    rw [if_neg (nsg z), if_neg (nsg z)]
  have b2 := b.pl p2
  have c2 : hI h2 (y + 16) d = 0 := (p3.2.2.2.2.2.2.1 d (Nat.lt_succ_self d)).trans c0
  have go : ∀ (k : Int32) (r c : Nat), ((r = 24 ∧ c = 60) ∨ (r = 25 ∧ c = 61)) → sSg X (gSum X (gPart X (lwO l) e) q).1 c = true → ∀ s, Ou N X y f l d d (gSum X (gPart X (lwO l) e) q) h2 (fun n => f_X11_reads_11 N n y (nI d) 0 h2) d (qC k (gSum X (gPart X (lwO l) e) (qN X r (gSum X (gPart X (lwO l) e) q)))) (Cm X y d s) := fun k r c hrc c1 s => by
    obtain ⟨h3, a1, a2, a3, a4, a5⟩ := r_cmp (N := N) (d := d) (m := d) hN hrc hd (Nat.le_refl d) l2 c1 c2
    refine Ou.step (G := fun n => f_X11_reads_11 N n y (nI d) 1 h3) l2 (sSg_t c1) a1 a3 (Nat.le_refl _) (Nat.le_succ d) (((o_sum hN hd ip a2 (b2.of a4)).fr.em (fun h' z _ => ?_)).c (c := k))
    exact (z.2.2.2.2.2.2.2.1 d (Nat.lt_succ_self d)).trans a5
  unfold gTest
  by_cases c1 : sSg X (gSum X (gPart X (lwO l) e) q).1 60 = true
  · rw [if_pos c1]; exact go _ _ 60 (Or.inl ⟨rfl, rfl⟩) c1 _
  rw [if_neg c1]
  by_cases c3 : sSg X (gSum X (gPart X (lwO l) e) q).1 61 = true
  · rw [if_pos c3]; exact go _ _ 61 (Or.inr ⟨rfl, rfl⟩) c3 _
  · rw [if_neg c3]
    exact Ou.rf l2 (fun z => by rcases z with z | z <;> contradiction)
theorem o_tl (hN : 2000 ≤ N) (hd : d ≤ 5) (ip : OuP N X y f l e d) : ∀ n q h, MLs X y f l h q → Bs y d h → X.1 < n + q.1.2 → Cm X y d q.1 h → Ou N X y f l d d q h (fun n => f_X11_reads_11 N n y (nI d) 0 h) d (gTL X (gPart X (lwO l) e) n q) (Cm X y d (gTL X (gPart X (lwO l) e) n q).1)
  | 0, q, h, l0, b, c, _ => by have := l0.le; omega
  | n + 1, q, h, l0, b, c, cm => by
    unfold gTL
    have go : ∀ (k : Int32) (r i : Nat), ((r = 26 ∧ i = 20) ∨ (r = 27 ∧ i = 21)) → sWd X q.1 i = true → Ou N X y f l d d q h (fun n => f_X11_reads_11 N n y (nI d) 0 h) d (gTL X (gPart X (lwO l) e) n (qC k (gTest X (gPart X (lwO l) e) (qN X r q)))) (Cm X y d (gTL X (gPart X (lwO l) e) n (qC k (gTest X (gPart X (lwO l) e) (qN X r q)))).1) := fun k r i hri c1 => by
      obtain ⟨h1, a1, a2, a3, a4, a5⟩ := r_and (N := N) (d := d) (m := d) hN hri hd (Nat.le_refl d) l0 c1
      have b1 : Bs y d h1 := b.of a4
      refine Ou.step (G := fun n => f_X11_reads_11 N n y (nI d) 1 h1) l0 (sWd_t c1) a1 a3 (Nat.le_refl _) (Nat.le_refl _) (Ou.bind (Nat.le_refl _) (Nat.le_refl _) ((o_test hN hd ip a2 b1 a5).c (c := k)) (fun z => gTL_z z n) (fun h2 l2 p2 cm2 => ?_))
      have := (pr_more gT_te l0.le l0.1 (sWd_t c1) l2.1).1
      exact o_tl hN hd ip n _ h2 l2 (b1.pl p2) (by omega) (by rw [qC_0]; exact cm2)
    by_cases c1 : sWd X q.1 20 = true
    · rw [if_pos c1]; exact go _ _ 20 (Or.inl ⟨rfl, rfl⟩) c1
    rw [if_neg c1]
    by_cases c2 : sWd X q.1 21 = true
    · rw [if_pos c2]; exact go _ _ 21 (Or.inr ⟨rfl, rfl⟩) c2
    · rw [if_neg c2]; exact Ou.rf l0 cm
theorem o_tests (hN : 2000 ≤ N) (hd : d ≤ 5) (ip : OuP N X y f l e d) (l0 : MLs X y f l h q) (b : Bs y d h) (c0 : hI h (y + 16) d = 0) : Ou N X y f l d d q h (fun n => f_X11_reads_11 N n y (nI d) 1 h) d (gTests X (gPart X (lwO l) e) q) (Cm X y d (gTests X (gPart X (lwO l) e) q).1) := by
  refine Ou.bind (Nat.le_refl _) (Nat.le_refl _) (o_test hN hd ip l0 b c0) (fun z => gTL_z z 1000) (fun h2 l2 p2 cm2 => ?_)
  have := (pr_one gT_te l0.le l2.1).1
  have := l0.ok.1
  exact o_tl hN hd ip 1000 _ h2 l2 (b.pl p2) (by omega) cm2
end IND
end MLZ
