/-! PURE: a house as rows of blocks -/
def hl_in (col : Nat → List Nat) (i : Nat) : Bool := (List.range 16).any (fun c => (col c).contains i)
theorem in_iff {col : Nat → List Nat} {i : Nat} : hl_in col i = true ↔ ∃ c, c < 16 ∧ i ∈ col c := by
  simp [hl_in]
def hl_h (col : Nat → List Nat) (c : Nat) : Nat := (col c).length
def hl_b (col : Nat → List Nat) (c l : Nat) : Nat := ((col c)[l]?).getD 0
def hl_w (sh : Nat → Bool) (col : Nat → List Nat) (wt : Nat → Nat) (i : Nat) : Nat := if sh i = true then wt i else if hl_in col i = true then wt i else 0
def hl_p (sh : Nat → Bool) (col : Nat → List Nat) (i : Nat) : Nat := if sh i = true then 0 else if hl_in col i = true then 1 else 2
def hl_r (col : Nat → List Nat) (c : Nat) (L : List Nat) : Nat → List Nat := fun k => if k = c then L else col k
theorem r_same (col : Nat → List Nat) (c : Nat) (L : List Nat) : hl_r col c L c = L := if_pos rfl
theorem r_ne {col : Nat → List Nat} {c k : Nat} {L : List Nat} (h : k ≠ c) : hl_r col c L k = col k := if_neg h
theorem r_r (col : Nat → List Nat) (c : Nat) (L M : List Nat) : hl_r (hl_r col c L) c M = hl_r col c M := by
  funext k
  by_cases h : k = c
  · subst h; rw [r_same, r_same]
  · rw [r_ne h, r_ne h, r_ne h]
theorem r_id {col : Nat → List Nat} {c : Nat} {L : List Nat} (h : col c = L) : hl_r col c L = col := by
  funext k
  by_cases e : k = c
  · subst e; rw [r_same, h]
  · rw [r_ne e]
/-- places of a house: kinds, weights, where, heights, piles -/
def hvg (S : iz_S) (kp wp pp hp sp B : Nat) (kd wt : Nat → Nat) (sh : Nat → Bool) (col : Nat → List Nat) : Prop :=
  (∀ i, i < B → S.1 kp i = nI (kd i) ∧ S.1 wp i = nI (hl_w sh col wt i) ∧ S.1 pp i = nI (hl_p sh col i)) ∧ (∀ c, c < 16 → S.1 hp c = nI (hl_h col c)) ∧ ∀ c l, c < 16 → l < hl_h col c → S.1 sp (6 * c + l) = nI (hl_b col c l)
def hv9 (S : iz_S) (B : Nat) (col : Nat → List Nat) : Prop := (∀ c i, c < 16 → i ∈ col c → S.1 89 i = nI c) ∧ ∀ i, i < B → hl_in col i = false → S.1 89 i = -1
def hvc (S : iz_S) (q B w : Nat) (kd wt : Nat → Nat) (sh : Nat → Bool) (col : Nat → List Nat) : Prop := S.1 q 0 = nI B ∧ S.1 q 5 = nI w ∧ hvg S (q + 1) (q + 2) (q + 3) (q + 4) (q + 5) B kd wt sh col
def hvm (S : iz_S) (B w : Nat) (kd wt : Nat → Nat) (sh : Nat → Bool) (col : Nat → List Nat) : Prop := S.1 82 3 = nI B ∧ S.1 82 13 = nI w ∧ hvg S 86 87 88 91 90 B kd wt sh col ∧ hv9 S B col
def hvi (B w : Nat) (kd wt : Nat → Nat) (sh : Nat → Bool) (col : Nat → List Nat) : Prop :=
  B ≤ 60 ∧ w ≤ 200 ∧ (∀ i, i < B → kd i ≤ 3 ∧ wt i ≤ 1200) ∧ (∀ c, c < 16 → (col c).length ≤ 6 ∧ (col c).Nodup) ∧ (∀ c i, c < 16 → i ∈ col c → i < B ∧ sh i = false) ∧ ∀ c c2 i, c < 16 → c2 < 16 → i ∈ col c → i ∈ col c2 → c = c2
theorem b_get {col : Nat → List Nat} {c l : Nat} (h : l < hl_h col c) : (col c)[l]? = some (hl_b col c l) := by
  unfold hl_h at h
  unfold hl_b
  rw [List.getElem?_eq_getElem h]
  rfl
theorem b_mem {col : Nat → List Nat} {c l : Nat} (h : l < hl_h col c) : hl_b col c l ∈ col c := List.mem_of_getElem? (b_get h)
theorem b_of {col : Nat → List Nat} {c i : Nat} (h : i ∈ col c) : ∃ l, l < hl_h col c ∧ hl_b col c l = i := by
  obtain ⟨l, hl, e⟩ := List.mem_iff_getElem.mp h
  refine ⟨l, hl, ?_⟩
  unfold hl_b
  rw [List.getElem?_eq_getElem hl, e]
  rfl
theorem w_in {sh : Nat → Bool} {col : Nat → List Nat} {wt : Nat → Nat} {c i : Nat} (hc : c < 16) (h : i ∈ col c) : hl_w sh col wt i = wt i := by
  unfold hl_w
  rw [in_iff.mpr ⟨c, hc, h⟩]
  split <;> rfl
theorem p_in {sh : Nat → Bool} {col : Nat → List Nat} {c i : Nat} (hc : c < 16) (h : i ∈ col c) (hs : sh i = false) : hl_p sh col i = 1 := by
  unfold hl_p
  rw [in_iff.mpr ⟨c, hc, h⟩, hs]
  rfl
theorem hvi_i {B w : Nat} {kd wt : Nat → Nat} {sh : Nat → Bool} {col : Nat → List Nat} (h : hvi B w kd wt sh col) : hs_i B w (hl_h col) (hl_b col) kd (hl_w sh col wt) (hl_p sh col) := by
  obtain ⟨h1, h2, h3, h4, h5, h6⟩ := h
  refine ⟨h1, h2, fun i hi => ⟨(h3 i hi).1, ?_, ?_, ?_⟩, fun c hc => (h4 c hc).1, fun c l hc hl => ⟨(h5 c _ hc (b_mem hl)).1, p_in hc (b_mem hl) (h5 c _ hc (b_mem hl)).2⟩, fun c l c2 l2 hc hl hc2 hl2 e => ?_, fun i hi hp => ?_⟩
  · have := (h3 i hi).2
    unfold hl_w
    split
    · exact this
    · split
      · exact this
      · omega
  · unfold hl_p
    split
    · omega
    · split <;> omega
  · unfold hl_p hl_w
    intro q
    by_cases a : sh i = true
    · rw [if_pos a] at q; omega
    · rw [if_neg a] at q ⊢
      by_cases a2 : hl_in col i = true
      · rw [if_pos a2] at q; omega
      · rw [if_neg a2]
  · have m1 := b_mem hl
    have m2 := b_mem hl2
    rw [← e] at m2
    obtain rfl := h6 c c2 _ hc hc2 m1 m2
    refine ⟨rfl, ?_⟩
    have g1 := b_get hl
    have g2 := b_get hl2
    rw [← e, ← g1] at g2
    exact ((List.getElem?_inj hl (h4 c hc).2).mp g2.symm)
  · unfold hl_p at hp
    by_cases a : sh i = true
    · rw [if_pos a] at hp; omega
    · rw [if_neg a] at hp
      by_cases a2 : hl_in col i = true
      · obtain ⟨c, hc, hm⟩ := in_iff.mp a2
        obtain ⟨l, hl, e⟩ := b_of hm
        exact ⟨c, l, hc, hl, e⟩
      · rw [if_neg a2] at hp; omega
theorem hvc_c {S : iz_S} {q B w : Nat} {kd wt : Nat → Nat} {sh : Nat → Bool} {col : Nat → List Nat} (h : hvc S q B w kd wt sh col) : hs_c S q B w (hl_h col) (hl_b col) kd (hl_w sh col wt) (hl_p sh col) := h
theorem hvm_m {S : iz_S} {B w : Nat} {kd wt : Nat → Nat} {sh : Nat → Bool} {col : Nat → List Nat} (hi : hvi B w kd wt sh col) (h : hvm S B w kd wt sh col) : hs_m S B w (hl_h col) (hl_b col) kd (hl_w sh col wt) (hl_p sh col) := by
  obtain ⟨h1, h2, ⟨h3, h4, h5⟩, h6, h7⟩ := h
  refine ⟨h1, h2, h3, h4, h5, fun c l hc hl => h6 c _ hc (b_mem hl), fun i hiB hp => ?_⟩
  unfold hl_p at hp
  by_cases a2 : hl_in col i = true
  · by_cases a : sh i = true
    · obtain ⟨c, hc, hm⟩ := in_iff.mp a2
      rw [(hi.2.2.2.2.1 c i hc hm).2] at a
      cases a
    · rw [if_neg a, if_pos a2] at hp
      exact absurd rfl hp
  · exact h7 i hiB (by simpa using a2)
/-- a row out of its numbers -/
theorem rng_b (L : List Nat) : (List.range L.length).map (fun l => (L[l]?).getD 0) = L := by
  apply List.ext_getElem?
  intro j
  rw [List.getElem?_map]
  by_cases h : j < L.length
  · rw [List.getElem?_range h, List.getElem?_eq_getElem h]
    simp [h]
  · rw [List.getElem?_eq_none (by simpa using h), List.getElem?_eq_none (by omega)]
    rfl
theorem rng_g {h : Nat} {f : Nat → Nat} {l : Nat} (hl : l < h) : (((List.range h).map f)[l]?).getD 0 = f l := by
  rw [List.getElem?_map, List.getElem?_range hl]
  rfl
theorem sm_cong {wt wt2 : Nat → Nat} : ∀ {L : List Nat}, (∀ i, i ∈ L → wt i = wt2 i) → hl_sm wt L = hl_sm wt2 L
  | [], _ => rfl
  | a :: R, h => by
    rw [hl_sm, hl_sm, h a List.mem_cons_self, sm_cong (fun i hi => h i (List.mem_cons_of_mem a hi))]
theorem bk_cong {kd wt wt2 : Nat → Nat} : ∀ {L : List Nat}, (∀ i, i ∈ L → wt i = wt2 i) → hl_bk kd wt L = hl_bk kd wt2 L
  | [], _ => rfl
  | a :: R, h => by
    have h2 : ∀ i, i ∈ R → wt i = wt2 i := fun i hi => h i (List.mem_cons_of_mem a hi)
    rw [hl_bk, hl_bk, h a List.mem_cons_self, sm_cong h2, bk_cong h2]
theorem bk_sub (kd wt : Nat → Nat) : ∀ L : List Nat, (hl_bk kd wt L).Sublist L
  | [] => List.Sublist.refl _
  | a :: R => by
    rw [hl_bk]
    split
    · exact List.Sublist.cons a (bk_sub kd wt R)
    · exact List.Sublist.cons_cons a (bk_sub kd wt R)
theorem sm_sub {wt : Nat → Nat} {L M : List Nat} (h : L.Sublist M) : hl_sm wt L ≤ hl_sm wt M := by
  induction h with
  | slnil => exact Nat.le_refl _
  | cons a _ ih => rw [hl_sm]; omega
  | cons_cons a _ ih => rw [hl_sm, hl_sm]; omega
theorem bk_bk (kd wt : Nat → Nat) : ∀ L : List Nat, hl_bk kd wt (hl_bk kd wt L) = hl_bk kd wt L
  | [] => rfl
  | a :: R => by
    have ih := bk_bk kd wt R
    rw [hl_bk]
    by_cases h : kd a = 3 ∧ 2 * wt a < hl_sm wt R
    · rw [if_pos h, ih]
    · have := sm_sub (wt := wt) (bk_sub kd wt R)
      rw [if_neg h, hl_bk, if_neg (by omega), ih]
