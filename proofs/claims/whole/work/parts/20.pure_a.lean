/-! PURE: weakest preconditions over the functions, small facts on numbers -/
theorem fa_lt (a b : Int32) : a < b ↔ a.toInt < b.toInt := Int32.lt_iff_toInt_lt
theorem fa_le (a b : Int32) : a ≤ b ↔ a.toInt ≤ b.toInt := Int32.le_iff_toInt_le
theorem fa_eq (a b : Int32) : a = b ↔ a.toInt = b.toInt := Int32.toInt_inj.symm
theorem fb_rng (x : Int32) : -2147483648 ≤ x.toInt ∧ x.toInt < 2147483648 := by
  have h1 := Int32.le_toInt x
  have h2 := Int32.toInt_lt x
  omega
theorem fb_bmod {z : Int} (h1 : -2147483648 ≤ z) (h2 : z < 2147483648) : z.bmod (2 ^ 32) = z := by
  rw [Int.bmod_def]
  split <;> omega
theorem fb_addI {x y : Int32} (h1 : -2147483648 ≤ x.toInt + y.toInt) (h2 : x.toInt + y.toInt < 2147483648) : (x + y).toInt = x.toInt + y.toInt := by
  rw [Int32.toInt_add]
  exact fb_bmod h1 h2
theorem fb_subI {x y : Int32} (h1 : -2147483648 ≤ x.toInt - y.toInt) (h2 : x.toInt - y.toInt < 2147483648) : (x - y).toInt = x.toInt - y.toInt := by
  rw [Int32.toInt_sub]
  exact fb_bmod h1 h2
theorem fb_mulI {x y : Int32} (h1 : -2147483648 ≤ x.toInt * y.toInt) (h2 : x.toInt * y.toInt < 2147483648) : (x * y).toInt = x.toInt * y.toInt := by
  rw [Int32.toInt_mul]
  exact fb_bmod h1 h2
/-- it comes to an answer with Q -/
def iz_wp {β : Type} (o : Option β) (Q : β → Prop) : Prop := ∃ z, o = some z ∧ Q z
theorem wp_some {β : Type} {z : β} {Q : β → Prop} (h : Q z) : iz_wp (some z) Q := ⟨z, rfl, h⟩
theorem wp_ck {β : Type} {b : Bool} {o : Option β} {Q : β → Prop} (hb : b = true) (h : iz_wp o Q) : iz_wp (iz_ck b o) Q := by
  unfold iz_ck
  rw [if_pos hb]
  exact h
theorem wp_lt {β γ : Type} {v : γ} {k : γ → Option β} {Q : β → Prop} (h : iz_wp (k v) Q) : iz_wp (iz_lt v k) Q := h
theorem wp_bI {β : Type} {o : Option (Int32 × iz_S)} {k : Int32 → iz_S → Option β} {Q : β → Prop} (h : iz_wp o (fun q => iz_wp (k q.1 q.2) Q)) : iz_wp (iz_bI o k) Q := by
  obtain ⟨z, rfl, hz⟩ := h
  exact hz
theorem wp_bL {β : Type} {o : Option (Int64 × iz_S)} {k : Int64 → iz_S → Option β} {Q : β → Prop} (h : iz_wp o (fun q => iz_wp (k q.1 q.2) Q)) : iz_wp (iz_bL o k) Q := by
  obtain ⟨z, rfl, hz⟩ := h
  exact hz
theorem wp_bV {β : Type} {o : Option iz_S} {k : iz_S → Option β} {Q : β → Prop} (h : iz_wp o (fun q => iz_wp (k q) Q)) : iz_wp (iz_bV o k) Q := by
  obtain ⟨z, rfl, hz⟩ := h
  exact hz
theorem wp_mono {β : Type} {o : Option β} {P Q : β → Prop} (h : iz_wp o P) (hPQ : ∀ z, P z → Q z) : iz_wp o Q := by
  obtain ⟨z, hz, hp⟩ := h
  exact ⟨z, hz, hPQ z hp⟩
theorem wp_if {β : Type} {c : Prop} [Decidable c] {a b : Option β} {Q : β → Prop} (ha : c → iz_wp a Q) (hb : ¬ c → iz_wp b Q) : iz_wp (if c then a else b) Q := by
  by_cases h : c
  · rw [if_pos h]; exact ha h
  · rw [if_neg h]; exact hb h
theorem wp_t {β : Type} {c : Prop} [Decidable c] {a b : Option β} {Q : β → Prop} (h : c) (ha : iz_wp a Q) : iz_wp (if c then a else b) Q := by rw [if_pos h]; exact ha
theorem wp_f {β : Type} {c : Prop} [Decidable c] {a b : Option β} {Q : β → Prop} (h : ¬ c) (hb : iz_wp b Q) : iz_wp (if c then a else b) Q := by rw [if_neg h]; exact hb
theorem wp_eq {β : Type} {o o2 : Option β} {Q : β → Prop} (h : o = o2) (h2 : iz_wp o2 Q) : iz_wp o Q := h ▸ h2
theorem in_nI {n N : Nat} (h : n < N) (hN : N < 2 ^ 31) : iz_in (nI n) N = true := by
  unfold iz_in
  have h1 : ¬ nI n < 0 := nI_pos (by omega)
  have h2 : (nI n).toNatClampNeg = n := nI_clamp (by omega)
  simp [h1, h2]
  omega
theorem nb_0 : iz_nb 0 = 0 := by decide
theorem nb_1 : iz_nb 1 = 1 := by decide
theorem lit_nI (n : Nat) : (OfNat.ofNat n : Int32) = nI n := rfl
/-- small whole numbers -/
theorem nI_tI {n : Nat} (h : n < 2 ^ 31) : (nI n).toInt = (n : Int) := nI_toInt h
/-- an int between two numbers is one of them -/
theorem nI_btw {x : Int32} {a b : Nat} (hb : b < 2 ^ 31) (h1 : nI a ≤ x) (h2 : x ≤ nI b) (ha : a < 2 ^ 31) : ∃ n, a ≤ n ∧ n ≤ b ∧ x = nI n := by
  rw [fa_le, nI_toInt ha] at h1
  rw [fa_le, nI_toInt hb] at h2
  refine ⟨x.toInt.toNat, by omega, by omega, ?_⟩
  rw [fa_eq, nI_toInt (by omega)]
  omega
theorem ic_within (v a b : Int32) (S : iz_S) : Ic_within v a b S = some (if a ≤ v ∧ v ≤ b then 1 else 0, S) := by
  unfold Ic_within Ic_within_14 Ic_within_15
  by_cases h1 : v < a
  · rw [if_pos h1, if_neg (fun h => absurd h.1 (Int32.not_le.mpr h1))]
    rfl
  · rw [if_neg h1]
    have h1' := Int32.not_lt.mp h1
    by_cases h2 : v ≤ b
    · rw [if_pos h2, if_pos ⟨h1', h2⟩]; rfl
    · rw [if_neg h2, if_neg (fun h => h2 h.2)]; rfl
theorem mo_isIn (v a b : Int32) (S : iz_S) : Mo_isIn v a b S = some (if a ≤ v ∧ v ≤ b then 1 else 0, S) := by
  unfold Mo_isIn Mo_isIn_14 Mo_isIn_15
  by_cases h1 : v < a
  · rw [if_pos h1, if_neg (fun h => absurd h.1 (Int32.not_le.mpr h1))]
    rfl
  · rw [if_neg h1]
    have h1' := Int32.not_lt.mp h1
    by_cases h2 : v ≤ b
    · rw [if_pos h2, if_pos ⟨h1', h2⟩]; rfl
    · rw [if_neg h2, if_neg (fun h => h2 h.2)]; rfl
/-- a test of a range, and a finding where it isn't kept -/
theorem wp_within {β : Type} {v a b : Int32} {S : iz_S} {k1 k2 : iz_S → Option β} {Q : β → Prop} (h1 : ¬ (a ≤ v ∧ v ≤ b) → iz_wp (k1 S) Q) (h2 : a ≤ v ∧ v ≤ b → iz_wp (k2 S) Q) : iz_wp (iz_bI (Ic_within v a b S) (fun r S1 => if r = 0 then k1 S1 else k2 S1)) Q := by
  refine wp_bI ?_
  rw [ic_within]
  refine wp_some ?_
  by_cases h : a ≤ v ∧ v ≤ b
  · refine wp_f (by rw [if_pos h]; show ¬ (1 : Int32) = 0; decide) (h2 h)
  · refine wp_t (by rw [if_neg h]) (h1 h)
theorem wp_isIn {β : Type} {v a b : Int32} {S : iz_S} {k1 k2 : iz_S → Option β} {Q : β → Prop} (h1 : ¬ (a ≤ v ∧ v ≤ b) → iz_wp (k1 S) Q) (h2 : a ≤ v ∧ v ≤ b → iz_wp (k2 S) Q) : iz_wp (iz_bI (Mo_isIn v a b S) (fun r S1 => if r = 0 then k1 S1 else k2 S1)) Q := by
  refine wp_bI ?_
  rw [mo_isIn]
  refine wp_some ?_
  by_cases h : a ≤ v ∧ v ≤ b
  · refine wp_f (by rw [if_pos h]; show ¬ (1 : Int32) = 0; decide) (h2 h)
  · refine wp_t (by rw [if_neg h]) (h1 h)
/-- references, by computation -/
theorem rf_9 : iz_rf 0 0 = 1 ∧ iz_rf 0 1 = 5 ∧ iz_rf 0 2 = 9 ∧ iz_rf 0 3 = 13 ∧ iz_rf 0 4 = 19 ∧ iz_rf 0 5 = 25 ∧ iz_rf 0 6 = 38 ∧ iz_rf 0 7 = 45 ∧ iz_rf 0 8 = 55 ∧ iz_rf 0 9 = 79 ∧ iz_rf 0 10 = 81 := by decide +kernel
/-- what both have found -/
def rl_found (S : iz_S) : Prop := ∀ i, i < 6 → S.1 81 i = S.1 106 i
theorem up_same (S : iz_S) (p i : Nat) (v : Int32) : (iz_up S p i v).1 p i = v := by simp [iz_up, upd]
theorem up_ne (S : iz_S) (p i : Nat) (v : Int32) {q j : Nat} (h : q ≠ p ∨ j ≠ i) : (iz_up S p i v).1 q j = S.1 q j := by
  unfold iz_up upd
  by_cases h1 : q = p
  · have h2 : j ≠ i := by rcases h with h | h; exact absurd h1 h; exact h
    simp [h1, h2]
  · simp [h1]
theorem up_L (S : iz_S) (p i : Nat) (v : Int32) : (iz_up S p i v).2 = S.2 := rfl
theorem upA (S : iz_S) (p i : Nat) (v : Int32) (q : Nat) : (iz_up S p i v).1 q = if q = p then upd (S.1 q) i v else S.1 q := rfl
theorem ic_finding (k : Nat) (hk : k < 6) (S : iz_S) : Ic_finding 0 (nI k) S = some ((-1000000) - nI k, iz_up S 81 k (S.1 81 k + 1)) := by
  unfold Ic_finding iz_s iz_g
  have h1 : iz_rf 0 10 = 81 := by decide +kernel
  rw [h1, in_nI hk (by decide), nI_clamp (by omega)]
  rfl
theorem mo_finding (k : Nat) (hk : k < 6) (S : iz_S) : Mo_finding 82 (nI k) S = some ((-1000000) - nI k, iz_up S 106 k (S.1 106 k + 1)) := by
  unfold Mo_finding iz_s iz_g
  have h1 : iz_rf 82 28 = 106 := by decide +kernel
  rw [h1, in_nI hk (by decide), nI_clamp (by omega)]
  rfl
