/-! PURE: sales, what is left out changes nothing -/
/-- the search stands at R -/
def sl_i (D : List Nat) (pr : Nat → Nat) (u : Nat → Bool) (t : Nat → Nat) (R : List (Nat × Nat)) (s : Nat) : Prop := sl_v D R ∧ (∀ k, u k = true ↔ k ∈ R.map Prod.fst) ∧ s = sl_s pr R ∧ ∀ p, t p ≤ R.length
def sl_b (D : List Nat) (pr : Nat → Nat) (B : sl_B) : Prop := sl_v D B.2 ∧ B.1 = sl_s pr B.2 ∧ B.2.length ≤ 4
theorem sl_uf {D : List Nat} {pr : Nat → Nat} {u : Nat → Bool} {t : Nat → Nat} {R : List (Nat × Nat)} {s : Nat} (h : sl_i D pr u t R s) {k : Nat} (hk : u k = false) : k ∉ R.map Prod.fst := fun q => by
  have := (h.2.1 k).mpr q
  rw [hk] at this
  cases this
theorem sl_is {D : List Nat} {pr : Nat → Nat} {u : Nat → Bool} {t : Nat → Nat} {R : List (Nat × Nat)} {s k p : Nat} (h : sl_i D pr u t R s) (hk : u k = false) (kD : k ∈ D) : sl_i D pr (sl_u u k) (sl_t t p) (R ++ [(k, p)]) (s + pr k) := by
  have nk := sl_uf h hk
  refine ⟨⟨?_, fun x hx => ?_⟩, fun i => ?_, ?_, fun i => ?_⟩
  · rw [List.map_append, List.nodup_append]
    refine ⟨h.1.1, by simp, fun a ha b hb => ?_⟩
    have : b = k := by simpa using hb
    rw [this]
    intro e
    rw [e] at ha
    exact nk ha
  · rcases List.mem_append.mp hx with q | q
    · exact h.1.2 x q
    · rw [List.mem_singleton.mp q]; exact kD
  · unfold sl_u
    rw [List.map_append, List.mem_append]
    by_cases e : i = k
    · rw [if_pos e, e]; simp
    · rw [if_neg e, h.2.1 i]; simp [e]
  · rw [sl_sa, h.2.2.1, sl_s, sl_s]
    rfl
  · have := h.2.2.2 i
    have := h.2.2.2 p
    unfold sl_t
    rw [List.length_append]
    show _ ≤ R.length + 1
    split <;> omega
theorem sl_kk (s : Nat) (R : List (Nat × Nat)) (B : sl_B) : sl_k s R (sl_k s R B) = sl_k s R B := by
  unfold sl_k
  by_cases h : B.1 < s ∨ (s = B.1 ∧ R.length < B.2.length)
  · rw [if_pos h]
    show (if s < s ∨ (s = s ∧ R.length < R.length) then _ else _) = _
    rw [if_neg (by omega)]
  · rw [if_neg h, if_neg h]
theorem sl_kb {D : List Nat} {pr : Nat → Nat} {u : Nat → Bool} {t : Nat → Nat} {R : List (Nat × Nat)} {s : Nat} {B : sl_B} (h : sl_i D pr u t R s) (hl : R.length ≤ 4) (hb : sl_b D pr B) : sl_b D pr (sl_k s R B) := by
  unfold sl_k
  split
  · exact ⟨h.1, h.2.2.1, hl⟩
  · exact hb
theorem sl_no {n N : Nat} {pr : Nat → Nat} {fit : Nat → Nat → Nat → Bool} {D : List Nat} (hD : ∀ k p t, k < n → p < N → t < 4 → fit k p t = true → k ∈ D) : ∀ (d : Nat) (u : Nat → Bool) (t : Nat → Nat) (R : List (Nat × Nat)) (s : Nat) (B : sl_B), sl_i D pr u t R s → R.length + d ≤ 4 → (∀ X, sl_v D X → (∀ x, x ∈ X → u x.1 = false) → X.length ≤ d → sl_k (s + sl_s pr X) (R ++ X) B = B) → sl_r n N pr fit d u t R s B = B := by
  intro d
  induction d with
  | zero =>
    intro u t R s B hi hl h
    have := h [] ⟨List.nodup_nil, fun x hx => by cases hx⟩ (fun x hx => by cases hx) (Nat.le_refl 0)
    rw [List.append_nil] at this
    exact this
  | succ d ih =>
    intro u t R s B hi hl h
    have h0 := h [] ⟨List.nodup_nil, fun x hx => by cases hx⟩ (fun x hx => by cases hx) (Nat.zero_le _)
    rw [List.append_nil] at h0
    have h0' : sl_k s R B = B := h0
    rw [sl_r, h0']
    refine itr_id (fun k _ kn => itr_id (fun p _ pN => ?_))
    by_cases c : (!u k && fit k p (t p)) = true
    · rw [if_pos c]
      simp only [Bool.and_eq_true, Bool.not_eq_true'] at c
      have t4 : t p < 4 := by have := hi.2.2.2 p; omega
      have kD := hD k p (t p) (by omega) (by omega) t4 c.2
      refine ih _ _ _ _ _ (sl_is hi c.1 kD) (by rw [List.length_append]; show R.length + 1 + d ≤ 4; omega) (fun X hv hu hX => ?_)
      have := h ((k, p) :: X) ⟨?_, fun x hx => ?_⟩ (fun x hx => ?_) (by rw [List.length_cons]; omega)
      · rw [sl_s, ← Nat.add_assoc] at this
        rw [List.append_assoc]
        exact this
      · rw [List.map_cons, List.nodup_cons]
        refine ⟨fun q => ?_, hv.1⟩
        obtain ⟨z, z1, z2⟩ := List.mem_map.mp q
        have := hu z z1
        unfold sl_u at this
        rw [if_pos z2] at this
        cases this
      · rcases List.mem_cons.mp hx with q | q
        · rw [q]; exact kD
        · exact hv.2 x q
      · rcases List.mem_cons.mp hx with q | q
        · rw [q]; exact c.1
        · have := hu x q
          unfold sl_u at this
          split at this
          · cases this
          · exact this
    · rw [if_neg c]
theorem sl_cut {pr : Nat → Nat} {D : List Nat} (hS : D.Pairwise (fun a b => pr b ≤ pr a)) (hp : ∀ k, k ∈ D → 1 ≤ pr k) {d : Nat} {u : Nat → Bool} {t : Nat → Nat} {R : List (Nat × Nat)} {s : Nat} {B : sl_B} (hi : sl_i D pr u t R s) (hl : R.length + (d + 1) = 4) (hb : sl_b D pr B) (h : s + sl_d pr u (d + 1) D ≤ B.1) (X : List (Nat × Nat)) (hv : sl_v D X) (hu : ∀ x, x ∈ X → u x.1 = false) (hX : X.length ≤ d + 1) : sl_k (s + sl_s pr X) (R ++ X) B = B := by
  have b1 := sl_dl hS hv hu hX
  unfold sl_k
  refine if_neg (fun c => ?_)
  rcases c with c | ⟨c1, c2⟩
  · omega
  · have b4 := hb.2.2
    have len : (R ++ X).length = R.length + X.length := List.length_append
    obtain ⟨y, y1, y2⟩ := sl_pg pr (Y := B.2) (X := R ++ X) hb.1.1 c2
    have yD := hb.1.2 y y1
    have yu : u y.1 = false := by
      cases e : u y.1 with
      | false => rfl
      | true =>
        obtain ⟨z, z1, z2⟩ := List.mem_map.mp ((hi.2.1 _).mp e)
        exact absurd z2 (y2 z (List.mem_append_left _ z1))
    have := sl_dl (X := y :: X) hS ⟨by
      rw [List.map_cons, List.nodup_cons]
      refine ⟨fun q => ?_, hv.1⟩
      obtain ⟨z, z1, z2⟩ := List.mem_map.mp q
      exact y2 z (List.mem_append_right _ z1) z2, fun x hx => by
      rcases List.mem_cons.mp hx with q | q
      · rw [q]; exact yD
      · exact hv.2 x q⟩ (fun x hx => by
      rcases List.mem_cons.mp hx with q | q
      · rw [q]; exact yu
      · exact hu x q) (m := d + 1) (by rw [List.length_cons]; omega)
    rw [sl_s] at this
    have := hp _ yD
    omega
theorem sl_eq {n N : Nat} {pr : Nat → Nat} {fit : Nat → Nat → Nat → Bool} {D : List Nat} (hD : ∀ k p t, k < n → p < N → t < 4 → fit k p t = true → k ∈ D) (hS : D.Pairwise (fun a b => pr b ≤ pr a)) (hp : ∀ k, k ∈ D → 1 ≤ pr k) : ∀ (d : Nat) (u : Nat → Bool) (t : Nat → Nat) (R : List (Nat × Nat)) (s : Nat) (B : sl_B), sl_i D pr u t R s → R.length + d = 4 → sl_b D pr B → sl_c n N pr fit D d u t R s B = sl_r n N pr fit d u t R s B ∧ sl_b D pr (sl_r n N pr fit d u t R s B) := by
  intro d
  induction d with
  | zero =>
    intro u t R s B hi hl hb
    exact ⟨rfl, sl_kb hi (by omega) hb⟩
  | succ d ih =>
    intro u t R s B hi hl hb
    have hb1 := sl_kb hi (show R.length ≤ 4 by omega) hb
    rw [sl_c]
    by_cases c : s + sl_d pr u (d + 1) D ≤ (sl_k s R B).1
    · rw [if_pos c]
      have e := sl_no hD (d + 1) u t R s (sl_k s R B) hi (by omega) (fun X hv hu hX => sl_cut hS hp hi hl hb1 c X hv hu hX)
      have e2 : sl_r n N pr fit (d + 1) u t R s B = sl_r n N pr fit (d + 1) u t R s (sl_k s R B) := by
        rw [sl_r, sl_r, sl_kk]
      rw [e2, e]
      exact ⟨rfl, hb1⟩
    · rw [if_neg c, sl_r]
      refine itr_cg (P := sl_b D pr) hb1 (fun k y _ kn hy => itr_cg (P := sl_b D pr) hy (fun p z _ pN hz => ?_))
      by_cases c2 : (!u k && fit k p (t p)) = true
      · rw [if_pos c2, if_pos c2]
        simp only [Bool.and_eq_true, Bool.not_eq_true'] at c2
        have t4 : t p < 4 := by have := hi.2.2.2 p; omega
        exact ih _ _ _ _ _ (sl_is hi c2.1 (hD k p (t p) (by omega) (by omega) t4 c2.2)) (by rw [List.length_append]; show R.length + 1 + d = 4; omega) hz
      · rw [if_neg c2, if_neg c2]
        exact ⟨rfl, hz⟩
