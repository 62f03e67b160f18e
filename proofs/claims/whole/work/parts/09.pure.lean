/-! Pure walks: what a method does to the typed heap, as a partial function; wp: it comes to an end, with Q of answer and heap. -/
def ck {α : Type} (c : Prop) [Decidable c] (k : Option α) : Option α := if c then k else none
def rq {α : Type} (o : Option Nat) (k : Nat → Option α) : Option α := match o with
  | some a => k a
  | none => none
def bd {α β : Type} (v : β) (k : β → Option α) : Option α := k v
def cl {α ρ : Type} (o : Option (ρ × PH)) (k : ρ → PH → Option α) : Option α := match o with
  | some (r, h) => k r h
  | none => none
def wp {ρ : Type} (o : Option (ρ × PH)) (Q : ρ → PH → Prop) : Prop := ∃ (r : ρ) (h : PH), o = some (r, h) ∧ Q r h
def q_u (Q : Unit → PH → Prop) : Option Value → PH → Prop := fun v h => v = none ∧ Q () h
section WP
variable {ρ σ : Type} {Q : ρ → PH → Prop}
theorem wp_no (h : wp (none : Option (ρ × PH)) Q) : False := by
  obtain ⟨r, h1, e, -⟩ := h
  cases e
theorem wp_ret {r : ρ} {h : PH} (hw : wp (some (r, h)) Q) : Q r h := by
  obtain ⟨r1, h1, e, hq⟩ := hw
  cases e
  exact hq
theorem wp_ck {c : Prop} {d : Decidable c} {k : Option (ρ × PH)} (hw : wp (@ck _ c d k) Q) : c ∧ wp k Q := by
  unfold ck at hw
  by_cases hc : c
  · rw [if_pos hc] at hw
    exact ⟨hc, hw⟩
  · rw [if_neg hc] at hw
    exact (wp_no hw).elim
theorem wp_rq {o : Option Nat} {k : Nat → Option (ρ × PH)} (hw : wp (rq o k) Q) : ∃ a, o = some a ∧ wp (k a) Q := by
  cases o with
  | none => exact (wp_no hw).elim
  | some a => exact ⟨a, rfl, hw⟩
theorem wp_bd {β : Type} {v : β} {k : β → Option (ρ × PH)} (hw : wp (bd v k) Q) (z : β) (hz : z = v) : wp (k z) Q := by
  subst hz
  exact hw
theorem wp_cl {o : Option (σ × PH)} {k : σ → PH → Option (ρ × PH)} (hw : wp (cl o k) Q) : wp o (fun r h => wp (k r h) Q) := by
  cases o with
  | none => exact (wp_no hw).elim
  | some p => exact ⟨p.1, p.2, rfl, hw⟩
theorem wp_if {c : Prop} {d : Decidable c} {k1 k2 : Option (ρ × PH)} (hw : wp (@ite _ c d k1 k2) Q) : (c → wp k1 Q) ∧ (¬ c → wp k2 Q) :=
  ⟨fun hc => by rw [if_pos hc] at hw; exact hw, fun hc => by rw [if_neg hc] at hw; exact hw⟩
theorem wp.mono {o : Option (ρ × PH)} {Q' : ρ → PH → Prop} (hw : wp o Q) (h : ∀ r h, Q r h → Q' r h) : wp o Q' := by
  obtain ⟨r, h1, e, hq⟩ := hw
  exact ⟨r, h1, e, h r h1 hq⟩
end WP
theorem g_nb {x : Int32} (h : x = 0 ∨ x = 1) : narrow .boolean (.int x) = .int x := by rcases h with rfl | rfl <;> rfl
theorem g_inb {i : Int32} {k n : Nat} (h0 : ¬ i < 0) (hk : ix i = k) (hlt : k < n) : inb i n := fun q => q.elim h0 (fun z => by rw [show i.toNatClampNeg = k from hk] at z; omega)
section GP
variable {Γ : GX} {y : MethodName} {cc : ByteArray} {nL : Nat} {rt : Option FieldType} {rb : GR} {pc : Nat} {lv lv' : List (Option Value)} {st : List Value} {h : PH} {cs cs' : Nat × Nat} {Ω : List Frame → Array Value → State → State → Prop}
variable {a k : Nat} {i x : Int32}
theorem G.cse (e : cs = cs') (kk : GZ Γ Ω y cc nL rt rb pc lv st h cs') : GZ Γ Ω y cc nL rt rb pc lv st h cs := e ▸ kk
theorem G_ialoadK (hd : decode cc pc = .ok (.iaload, 1)) (ha : hK h a = 12) (h0 : ¬ i < 0) (hk : ix i = k) (hlt : k < hN h a) (kk : GZ Γ Ω y cc nL rt rb (pc + 1) lv (.int (hI h a k) :: st) h cs) : GZ Γ Ω y cc nL rt rb pc lv (.int i :: .ref a :: st) h cs :=
  G_iaload hd ha (g_inb h0 hk hlt) (by rw [hk]; exact kk)
theorem G_zaloadK (hd : decode cc pc = .ok (.baload, 1)) (ha : hK h a = 13) (h0 : ¬ i < 0) (hk : ix i = k) (hlt : k < hN h a) (kk : GZ Γ Ω y cc nL rt rb (pc + 1) lv (.int (hI h a k) :: st) h cs) : GZ Γ Ω y cc nL rt rb pc lv (.int i :: .ref a :: st) h cs :=
  G_zaload hd ha (g_inb h0 hk hlt) (by rw [hk]; exact kk)
theorem G_laloadK (hd : decode cc pc = .ok (.laload, 1)) (ha : hK h a = 14) (h0 : ¬ i < 0) (hk : ix i = k) (hlt : k < hN h a) (kk : GZ Γ Ω y cc nL rt rb (pc + 1) lv (.long (hJ h a k) :: st) h cs) : GZ Γ Ω y cc nL rt rb pc lv (.int i :: .ref a :: st) h cs :=
  G_laload hd ha (g_inb h0 hk hlt) (by rw [hk]; exact kk)
theorem G_iastoreK (hd : decode cc pc = .ok (.iastore, 1)) (ha : hK h a = 12) (h0 : ¬ i < 0) (hk : ix i = k) (hlt : k < hN h a) (kk : GZ Γ Ω y cc nL rt rb (pc + 1) lv st (sI h a k x) cs) : GZ Γ Ω y cc nL rt rb pc lv (.int x :: .int i :: .ref a :: st) h cs :=
  G_iastore hd ha (g_inb h0 hk hlt) (by rw [hk]; exact kk)
theorem G_zastoreK (hd : decode cc pc = .ok (.bastore, 1)) (ha : hK h a = 13) (h0 : ¬ i < 0) (hk : ix i = k) (hlt : k < hN h a) (kk : GZ Γ Ω y cc nL rt rb (pc + 1) lv st (sI h a k (x &&& 1)) cs) : GZ Γ Ω y cc nL rt rb pc lv (.int x :: .int i :: .ref a :: st) h cs :=
  G_zastore hd ha (g_inb h0 hk hlt) (by rw [hk]; exact kk)
theorem G_aaload15K (hd : decode cc pc = .ok (.aaload, 1)) (ha : hK h a = 15) (h0 : ¬ i < 0) (hk : ix i = k) (hlt : k < hN h a) (kk : GZ Γ Ω y cc nL rt rb (pc + 1) lv (va_rf (hR h a k) :: st) h cs) : GZ Γ Ω y cc nL rt rb pc lv (.int i :: .ref a :: st) h cs :=
  G_aaload15 hd ha (g_inb h0 hk hlt) (by rw [hk]; exact kk)
theorem G_aaload16K (hd : decode cc pc = .ok (.aaload, 1)) (ha : hK h a = 16) (h0 : ¬ i < 0) (hk : ix i = k) (hlt : k < hN h a) (kk : GZ Γ Ω y cc nL rt rb (pc + 1) lv (va_rf (hR h a k) :: st) h cs) : GZ Γ Ω y cc nL rt rb pc lv (.int i :: .ref a :: st) h cs :=
  G_aaload16 hd ha (g_inb h0 hk hlt) (by rw [hk]; exact kk)
theorem G_aastore15K {v : Nat} (hd : decode cc pc = .ok (.aastore, 1)) (ha : hK h a = 15) (hv : hK h v = 2) (h0 : ¬ i < 0) (hk : ix i = k) (hlt : k < hN h a) (kk : GZ Γ Ω y cc nL rt rb (pc + 1) lv st (sR h a k (some v)) cs) : GZ Γ Ω y cc nL rt rb pc lv (.ref v :: .int i :: .ref a :: st) h cs :=
  G_aastore15 hd ha hv (g_inb h0 hk hlt) (by rw [hk]; exact kk)
theorem G_aastore16K {v : Nat} (hd : decode cc pc = .ok (.aastore, 1)) (ha : hK h a = 16) (hv : hK h v = 4) (h0 : ¬ i < 0) (hk : ix i = k) (hlt : k < hN h a) (kk : GZ Γ Ω y cc nL rt rb (pc + 1) lv st (sR h a k (some v)) cs) : GZ Γ Ω y cc nL rt rb pc lv (.ref v :: .int i :: .ref a :: st) h cs :=
  G_aastore16 hd ha hv (g_inb h0 hk hlt) (by rw [hk]; exact kk)
end GP
