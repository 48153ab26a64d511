/-! PURE: sales, the search without its places -/
/-- f i, f (i + 1), .. f (i + j - 1), one after another -/
def itr {β : Type} (f : Nat → β → β) : Nat → Nat → β → β
  | _, 0, x => x
  | i, j + 1, x => itr f (i + 1) j (f i x)
theorem itr_id {β : Type} {f : Nat → β → β} {x : β} : ∀ {j i : Nat}, (∀ k, i ≤ k → k < i + j → f k x = x) → itr f i j x = x
  | 0, _, _ => rfl
  | j + 1, i, h => by
    rw [itr, h i (Nat.le_refl i) (by omega)]
    exact itr_id (fun k h1 h2 => h k (by omega) (by omega))
theorem itr_cg {β : Type} {f g : Nat → β → β} {P : β → Prop} : ∀ {j i : Nat} {x : β}, P x → (∀ k y, i ≤ k → k < i + j → P y → f k y = g k y ∧ P (g k y)) → itr f i j x = itr g i j x ∧ P (itr g i j x)
  | 0, _, _, hx, _ => ⟨rfl, hx⟩
  | j + 1, i, x, hx, h => by
    obtain ⟨e, q⟩ := h i x (Nat.le_refl i) (by omega) hx
    rw [itr, itr, e]
    exact itr_cg q (fun k y h1 h2 => h k y (by omega) (by omega))
abbrev sl_B := Nat × List (Nat × Nat)
/-- the better row of sales stays -/
def sl_k (s : Nat) (R : List (Nat × Nat)) (B : sl_B) : sl_B := if B.1 < s ∨ (s = B.1 ∧ R.length < B.2.length) then (s, R) else B
def sl_u (u : Nat → Bool) (k : Nat) : Nat → Bool := fun i => if i = k then true else u i
def sl_t (t : Nat → Nat) (p : Nat) : Nat → Nat := fun i => if i = p then t p + 1 else t i
/-- every row, in order -/
def sl_r (n N : Nat) (pr : Nat → Nat) (fit : Nat → Nat → Nat → Bool) : Nat → (Nat → Bool) → (Nat → Nat) → List (Nat × Nat) → Nat → sl_B → sl_B
  | 0, _, _, R, s, B => sl_k s R B
  | d + 1, u, t, R, s, B => itr (fun k B => itr (fun p B => if (!u k && fit k p (t p)) = true then sl_r n N pr fit d (sl_u u k) (sl_t t p) (R ++ [(k, p)]) (s + pr k) B else B) 0 N B) 0 n (sl_k s R B)
/-- the dearest m that are not used -/
def sl_d (pr : Nat → Nat) (u : Nat → Bool) : Nat → List Nat → Nat
  | 0, _ => 0
  | _ + 1, [] => 0
  | m + 1, k :: D => if u k = true then sl_d pr u (m + 1) D else pr k + sl_d pr u m D
/-- rows, but none where nothing can be won -/
def sl_c (n N : Nat) (pr : Nat → Nat) (fit : Nat → Nat → Nat → Bool) (D : List Nat) : Nat → (Nat → Bool) → (Nat → Nat) → List (Nat × Nat) → Nat → sl_B → sl_B
  | 0, _, _, R, s, B => sl_k s R B
  | d + 1, u, t, R, s, B => if s + sl_d pr u (d + 1) D ≤ (sl_k s R B).1 then sl_k s R B else itr (fun k B => itr (fun p B => if (!u k && fit k p (t p)) = true then sl_c n N pr fit D d (sl_u u k) (sl_t t p) (R ++ [(k, p)]) (s + pr k) B else B) 0 N B) 0 n (sl_k s R B)
def sl_s (pr : Nat → Nat) : List (Nat × Nat) → Nat
  | [] => 0
  | x :: X => pr x.1 + sl_s pr X
theorem sl_sa (pr : Nat → Nat) : ∀ X Y : List (Nat × Nat), sl_s pr (X ++ Y) = sl_s pr X + sl_s pr Y
  | [], Y => (Nat.zero_add _).symm
  | x :: X, Y => by rw [List.cons_append, sl_s, sl_s, sl_sa pr X Y, Nat.add_assoc]
/-- distinct orders, all of them in D -/
def sl_v (D : List Nat) (X : List (Nat × Nat)) : Prop := (X.map Prod.fst).Nodup ∧ ∀ x, x ∈ X → x.1 ∈ D
def sl_rm (k : Nat) : List (Nat × Nat) → List (Nat × Nat)
  | [] => []
  | x :: X => if x.1 = k then X else x :: sl_rm k X
theorem sl_rms (k : Nat) : ∀ {X : List (Nat × Nat)} {x : Nat × Nat}, x ∈ sl_rm k X → x ∈ X
  | [], _, h => h
  | y :: X, x, h => by
    rw [sl_rm] at h
    split at h
    · exact List.mem_cons_of_mem _ h
    · rcases List.mem_cons.mp h with e | e
      · rw [e]; exact List.mem_cons_self
      · exact List.mem_cons_of_mem _ (sl_rms k e)
theorem sl_rmn (k : Nat) : ∀ {X : List (Nat × Nat)}, (X.map Prod.fst).Nodup → ((sl_rm k X).map Prod.fst).Nodup ∧ (∀ x, x ∈ sl_rm k X → x.1 ≠ k)
  | [], _ => ⟨List.nodup_nil, fun x h => by cases h⟩
  | y :: X, h => by
    rw [List.map_cons, List.nodup_cons] at h
    obtain ⟨h1, h2⟩ := sl_rmn k h.2
    rw [sl_rm]
    by_cases e : y.1 = k
    · rw [if_pos e]
      refine ⟨h.2, fun x hx hk => h.1 ?_⟩
      rw [e, ← hk]
      exact List.mem_map_of_mem hx
    · rw [if_neg e]
      refine ⟨?_, fun x hx => ?_⟩
      · rw [List.map_cons, List.nodup_cons]
        refine ⟨fun q => ?_, h1⟩
        obtain ⟨z, z1, z2⟩ := List.mem_map.mp q
        exact h.1 (List.mem_map.mpr ⟨z, sl_rms k z1, z2⟩)
      · rcases List.mem_cons.mp hx with q | q
        · rw [q]; exact e
        · exact h2 x q
theorem sl_rme (pr : Nat → Nat) (k : Nat) : ∀ {X : List (Nat × Nat)}, k ∈ X.map Prod.fst → sl_s pr X = pr k + sl_s pr (sl_rm k X) ∧ X.length = (sl_rm k X).length + 1
  | [], h => by cases h
  | y :: X, h => by
    rw [sl_rm]
    by_cases e : y.1 = k
    · rw [if_pos e, sl_s, e]
      exact ⟨rfl, rfl⟩
    · rw [if_neg e]
      have h2 : k ∈ X.map Prod.fst := by
        rw [List.map_cons] at h
        rcases List.mem_cons.mp h with q | q
        · exact absurd q.symm e
        · exact q
      obtain ⟨q1, q2⟩ := sl_rme pr k h2
      rw [sl_s, sl_s, List.length_cons, List.length_cons]
      omega
/-- no row of at most m more is worth more than the dearest m -/
theorem sl_dl {pr : Nat → Nat} {u : Nat → Bool} : ∀ {D : List Nat} {m : Nat} {X : List (Nat × Nat)}, D.Pairwise (fun a b => pr b ≤ pr a) → sl_v D X → (∀ x, x ∈ X → u x.1 = false) → X.length ≤ m → sl_s pr X ≤ sl_d pr u m D
  | D, 0, X, _, _, _, hl => by
    have : X = [] := List.length_eq_zero_iff.mp (by omega)
    rw [this]
    exact Nat.zero_le _
  | [], m + 1, X, _, hv, _, _ => by
    cases X with
    | nil => exact Nat.zero_le _
    | cons x X => exact absurd (hv.2 x List.mem_cons_self) (by simp)
  | k :: D, m + 1, X, hp, hv, hu, hl => by
    rw [List.pairwise_cons] at hp
    rw [sl_d]
    have sub : k ∉ X.map Prod.fst → ∀ x, x ∈ X → x.1 ∈ D := fun hk x hx => by
      rcases List.mem_cons.mp (hv.2 x hx) with q | q
      · exact absurd (List.mem_map.mpr ⟨x, hx, q⟩) hk
      · exact q
    by_cases hk : u k = true
    · rw [if_pos hk]
      have nk : k ∉ X.map Prod.fst := fun q => by
        obtain ⟨z, z1, z2⟩ := List.mem_map.mp q
        have := hu z z1
        rw [z2, hk] at this
        cases this
      exact sl_dl (D := D) hp.2 ⟨hv.1, sub nk⟩ hu hl
    · rw [if_neg hk]
      by_cases nk : k ∈ X.map Prod.fst
      · obtain ⟨q1, q2⟩ := sl_rme pr k nk
        obtain ⟨q3, q4⟩ := sl_rmn k hv.1
        have := sl_dl (D := D) (m := m) (X := sl_rm k X) hp.2 ⟨q3, fun x hx => by
          rcases List.mem_cons.mp (hv.2 x (sl_rms k hx)) with q | q
          · exact absurd q (q4 x hx)
          · exact q⟩ (fun x hx => hu x (sl_rms k hx)) (by omega)
        omega
      · cases X with
        | nil => exact Nat.zero_le _
        | cons x X =>
          have hx := sub nk x List.mem_cons_self
          have h1 := hp.1 _ hx
          have n2 : (X.map Prod.fst).Nodup := (List.nodup_cons.mp hv.1).2
          have := sl_dl (D := D) (m := m) (X := X) hp.2 ⟨n2, fun y hy => sub nk y (List.mem_cons_of_mem _ hy)⟩ (fun y hy => hu y (List.mem_cons_of_mem _ hy)) (by rw [List.length_cons] at hl; omega)
          rw [sl_s]
          omega
/-- a longer row has an order that the shorter has not -/
theorem sl_pg (pr : Nat → Nat) : ∀ {Y X : List (Nat × Nat)}, (Y.map Prod.fst).Nodup → X.length < Y.length → ∃ y, y ∈ Y ∧ ∀ x, x ∈ X → x.1 ≠ y.1
  | [], X, _, h => by simp at h
  | y :: Y, X, hn, h => by
    rw [List.map_cons, List.nodup_cons] at hn
    by_cases q : y.1 ∈ X.map Prod.fst
    · have e := (sl_rme pr y.1 q).2
      obtain ⟨z, z1, z2⟩ := sl_pg pr (Y := Y) (X := sl_rm y.1 X) hn.2 (by rw [List.length_cons] at h; omega)
      refine ⟨z, List.mem_cons_of_mem _ z1, fun x hx hxz => ?_⟩
      have zy : z.1 ≠ y.1 := fun e => hn.1 (List.mem_map.mpr ⟨z, z1, e⟩)
      have keep : ∀ {X : List (Nat × Nat)}, x ∈ X → x.1 ≠ y.1 → x ∈ sl_rm y.1 X := by
        intro X
        induction X with
        | nil => intro h _; cases h
        | cons w W ih =>
          intro h hne
          rw [sl_rm]
          rcases List.mem_cons.mp h with e | e
          · rw [← e, if_neg hne]; exact List.mem_cons_self
          · split
            · exact e
            · exact List.mem_cons_of_mem _ (ih e hne)
      exact z2 x (keep hx (by rw [hxz]; exact zy)) hxz
    · exact ⟨y, List.mem_cons_self, fun x hx e => q (List.mem_map.mpr ⟨x, hx, e⟩)⟩
