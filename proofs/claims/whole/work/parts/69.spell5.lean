/-! The duty of spell: why a search may stop. -/
/-- the fewest of a second hour, with what the first one lit -/
def sc1 (A : AV) (S : AS) (f : Nat) (w : Int32) (c b : Nat) (u : Nat → Nat) : Nat := if c + bn u < b ∧ sbs A S u f = w then c + bn u else b
def scL (A : AV) (S : AS) (f : Nat) (w : Int32) (c : Nat) : List (Nat → Nat) → Nat → Nat
  | [], b => b
  | u :: us, b => scL A S f w c us (sc1 A S f w c b u)
def scG (c m b : Nat) : Nat := if m ≠ 9 ∧ c + m < b then c + m else b
theorem scL_app {A : AV} {S : AS} {f : Nat} {w : Int32} {c : Nat} : ∀ a l b, scL A S f w c (a ++ l) b = scL A S f w c l (scL A S f w c a b)
  | [], _, _ => rfl
  | _ :: a, l, _ => scL_app a l _
theorem spL_app {A : AV} {S : AS} {f : Nat} {w1 w2 : Int32} : ∀ a l st, spL A S f w1 w2 (a ++ l) st = spL A S f w1 w2 l (spL A S f w1 w2 a st)
  | [], _, _ => rfl
  | _ :: a, l, _ => spL_app a l _
theorem scG_1 {A : AV} {S : AS} {f : Nat} {w : Int32} {c m b : Nat} {u : Nat → Nat} (hm : m = 9 ∨ m ≤ 4) : sc1 A S f w c (scG c m b) u = scG c (fw1 A S f w m u) b := by
  have bl := bn_le u
  unfold sc1 scG fw1
  by_cases s : sbs A S u f = w
  · simp only [s, and_true]
    repeat' split
    all_goals omega
  · simp only [s, and_false, if_false]
theorem scL_eq {A : AV} {S : AS} {f : Nat} {w : Int32} {c b : Nat} : ∀ l m, (m = 9 ∨ m ≤ 4) → scL A S f w c l (scG c m b) = scG c (fwL A S f w l m) b
  | [], _, _ => rfl
  | u :: us, m, hm => by
    show scL A S f w c us (sc1 A S f w c (scG c m b) u) = scG c (fwL A S f w us (fw1 A S f w m u)) b
    rw [scG_1 hm]
    refine scL_eq us _ ?_
    have := bn_le u
    unfold fw1
    split
    · exact Or.inr this
    · exact hm
/-- v goes on where u does not light yet -/
def Le (u v : Nat → Nat) : Prop := ∀ j, j < 4 → u j = 5 ∨ v j = u j
theorem fb_le {f g : Nat → Nat} : ∀ n, (∀ i, i < n → f i ≤ g i) → fb_sm f n ≤ fb_sm g n
  | 0, _ => Nat.le_refl _
  | n + 1, h => by
    have a := fb_le n (fun i hi => h i (by omega))
    have b := h n (by omega)
    show fb_sm f n + f n ≤ fb_sm g n + g n
    omega
theorem bn_mono {u v : Nat → Nat} (h : Le u v) : bn u ≤ bn v := fb_le 4 (fun j hj => by
  rcases h j hj with e | e
  · rw [if_pos e]; exact Nat.zero_le _
  · rw [e]; exact Nat.le_refl _)
theorem sb_mono {A : AV} {S : AS} {J : Nat} (hW : WV A) (hT : WS A J S) {u v : Nat → Nat} (h : Le u v) (f b : Nat) : sb A S u f b ≤ sb A S v f b := by
  have h4 := hW.1.2.2.1
  have q : fb_sm (fun i => if aF A i = f then gb A S u (aWind A (tH S)) b i else 0) (aC A 2) ≤ fb_sm (fun i => if aF A i = f then gb A S v (aWind A (tH S)) b i else 0) (aC A 2) := fb_le _ (fun j hj => by
    by_cases c : aF A j = f
    · rw [if_pos c, if_pos c]
      unfold gb
      by_cases z : 0 < tL S j
      · rw [if_pos (Or.inl z), if_pos (Or.inl z)]; exact Nat.le_refl _
      · rcases h j (by omega) with e | e
        · rw [if_pos (Or.inr e), gv_no hT (by omega) (by omega)]
          exact Nat.zero_le _
        · rw [e]; exact Nat.le_refl _
    · rw [if_neg c, if_neg c]; exact Nat.le_refl _)
  unfold sb
  omega
theorem aSg_fit {A : AV} {d s : Nat} : ∀ n i, aSg A d s n i ≠ aC A 3 → ((aR A (4 * aSg A d s n i) ≤ d ∧ d ≤ aR A (4 * aSg A d s n i + 1)) ∧ (aR A (4 * aSg A d s n i + 2) ≤ s ∧ s ≤ aR A (4 * aSg A d s n i + 3)))
  | 0, _, h => absurd rfl h
  | n + 1, i, h => by
    unfold aSg at h ⊢
    by_cases c : (aR A (4 * i) ≤ d ∧ d ≤ aR A (4 * i + 1)) ∧ (aR A (4 * i + 2) ≤ s ∧ s ≤ aR A (4 * i + 3))
    · rw [if_pos c]
      exact c
    · rw [if_neg c] at h ⊢
      exact aSg_fit n (i + 1) h
theorem aSign_fit {A : AV} {d s k : Nat} (hk : k < 1000) (h6 : aC A 3 ≤ 6) (h : aSign A d s = nI k) (hl : aSg A d s (aC A 3) 0 ≤ 1000) : (aR A (4 * k) ≤ d ∧ d ≤ aR A (4 * k + 1)) ∧ (aR A (4 * k + 2) ≤ s ∧ s ≤ aR A (4 * k + 3)) := by
  unfold aSign at h
  by_cases c : aSg A d s (aC A 3) 0 = aC A 3
  · rw [if_pos c] at h
    have := congrArg Int32.toInt h
    rw [nI_toInt (by omega), show (-1 : Int32).toInt = -1 by decide] at this
    omega
  · rw [if_neg c] at h
    have e := (nI_eq (by omega) (by omega)).mp h
    have q := aSg_fit (A := A) (d := d) (s := s) (aC A 3) 0 c
    rw [e] at q
    exact q
/-- a whole branch that changes nothing -/
theorem spL_no {A : AV} {S : AS} {f : Nat} {w1 w2 : Int32} {st : Nat × (Nat → Nat)} : ∀ l, (∀ u, u ∈ l → st.1 ≤ bn u ∨ sbs A S u f ≠ w1) → spL A S f w1 w2 l st = st
  | [], _ => rfl
  | u :: us, h => by
    have e : spS A S f w1 w2 st u = st := by
      unfold spS
      rw [if_neg (fun z => by
        rcases h u List.mem_cons_self with q | q
        · omega
        · exact q z.2.1)]
    show spL A S f w1 w2 us (spS A S f w1 w2 st u) = st
    rw [e]
    exact spL_no us (fun v hv => h v (List.mem_cons_of_mem _ hv))
theorem scL_no {A : AV} {S : AS} {f : Nat} {w : Int32} {c b : Nat} : ∀ l, (∀ u, u ∈ l → b ≤ c + bn u ∨ sbs A S u f ≠ w) → scL A S f w c l b = b
  | [], _ => rfl
  | u :: us, h => by
    have e : sc1 A S f w c b u = b := by
      unfold sc1
      rw [if_neg (fun z => by
        rcases h u List.mem_cons_self with q | q
        · omega
        · exact q z.2)]
    show scL A S f w c us (sc1 A S f w c b u) = b
    rw [e]
    exact scL_no us (fun v hv => h v (List.mem_cons_of_mem _ hv))
theorem ws_pre {X : Nat} {p : Nat → Nat → Bool} : ∀ n k u v, v ∈ ws X p n k u → ∀ j, j < k → v j = u j
  | 0, k, u, v, h, j, _ => by
    have h : v ∈ [u] := h
    rw [List.mem_singleton.mp h]
  | n + 1, k, u, v, h, j, hj => by
    unfold ws at h
    by_cases c : X.testBit k = true
    · rw [if_pos c] at h
      obtain ⟨f, hf, hv⟩ := List.mem_flatMap.mp h
      rw [ws_pre n (k + 1) _ v hv j (by omega), va_ne (by omega)]
    · rw [if_neg c] at h
      exact ws_pre n (k + 1) u v h j (by omega)
/-- all ways behind u go on from u -/
theorem ws_Le {X : Nat} {p : Nat → Nat → Bool} {n k : Nat} {u v : Nat → Nat} (hu : ∀ j, k ≤ j → u j = 5) (h : v ∈ ws X p n k u) : Le u v := fun j _ => by
  by_cases c : j < k
  · exact Or.inr (ws_pre n k u v h j c)
  · exact Or.inl (hu j (by omega))
