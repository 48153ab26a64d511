/-! PURE: how the class's places and the reference's belong together (rl_), and which places a part of it speaks of -/
def fa_ct (p : Nat → Bool) : Nat → Nat
  | 0 => 0
  | n + 1 => fa_ct p n + if p n then 1 else 0
def rl_lake (S : iz_S) : Prop := ∀ c, c < 64 → S.1 83 c = S.1 2 c ∧ S.1 84 c = S.1 3 c ∧ S.1 85 c = S.1 4 c ∧ ∃ t w m : Nat, t ≤ 60 ∧ w ≤ 30 ∧ m ≤ 1 ∧ S.1 2 c = nI t ∧ S.1 3 c = nI w ∧ S.1 4 c = nI m ∧ (t = 0 → w = 0 ∧ m = 0)
def rl_shel (S : iz_S) : Prop := (∀ i, i < 4 → S.1 92 i = S.1 10 i ∧ ∃ n : Nat, n ≤ 10 ∧ S.1 10 i = nI n) ∧ (∀ i, i < 16 → S.1 93 i = S.1 11 i ∧ ∃ n : Nat, n ≤ 10 ∧ S.1 11 i = nI n) ∧ (∀ i, i < 100 → S.1 94 i = S.1 12 i ∧ ∃ n : Nat, n ≤ 40 ∧ S.1 12 i = nI n)
/-- weights above a level, in a column of height n -/
def hs_ld (wt : Nat → Nat) (b : Nat → Nat) : Nat → Nat → Nat
  | 0, _ => 0
  | n + 1, l => hs_ld wt b n l + if l < n then wt (b n) else 0
/-- a house at place q of the class: B blocks, week w, heights h, block b c l at level l of column c, kinds, weights, where they are (0 shore, 1 house, 2 gone) -/
def hs_c (S : iz_S) (q B w : Nat) (h : Nat → Nat) (b : Nat → Nat → Nat) (kd wt pl : Nat → Nat) : Prop :=
  S.1 q 0 = nI B ∧ S.1 q 5 = nI w ∧ (∀ i, i < B → S.1 (q + 1) i = nI (kd i) ∧ S.1 (q + 2) i = nI (wt i) ∧ S.1 (q + 3) i = nI (pl i)) ∧ (∀ c, c < 16 → S.1 (q + 4) c = nI (h c)) ∧ ∀ c l, c < 16 → l < h c → S.1 (q + 5) (6 * c + l) = nI (b c l)
/-- the same in the reference -/
def hs_m (S : iz_S) (B w : Nat) (h : Nat → Nat) (b : Nat → Nat → Nat) (kd wt pl : Nat → Nat) : Prop :=
  S.1 82 3 = nI B ∧ S.1 82 13 = nI w ∧ (∀ i, i < B → S.1 86 i = nI (kd i) ∧ S.1 87 i = nI (wt i) ∧ S.1 88 i = nI (pl i)) ∧ (∀ c, c < 16 → S.1 91 c = nI (h c)) ∧ (∀ c l, c < 16 → l < h c → S.1 90 (6 * c + l) = nI (b c l)) ∧
  (∀ c l, c < 16 → l < h c → S.1 89 (b c l) = nI c) ∧ ∀ i, i < B → pl i ≠ 1 → S.1 89 i = -1
/-- what is true of a house, but for shelves that may break -/
def hs_i (B w : Nat) (h : Nat → Nat) (b : Nat → Nat → Nat) (kd wt pl : Nat → Nat) : Prop :=
  B ≤ 60 ∧ w ≤ 200 ∧ (∀ i, i < B → kd i ≤ 3 ∧ wt i ≤ 1200 ∧ (pl i ≤ 2 ∧ (pl i = 2 → wt i = 0))) ∧ (∀ c, c < 16 → h c ≤ 6) ∧ (∀ c l, c < 16 → l < h c → b c l < B ∧ pl (b c l) = 1) ∧ (∀ c l c2 l2, c < 16 → l < h c → c2 < 16 → l2 < h c2 → b c l = b c2 l2 → c = c2 ∧ l = l2) ∧ ∀ i, i < B → pl i = 1 → ∃ c l, c < 16 ∧ l < h c ∧ b c l = i
/-- the weight of a row of blocks -/
def hl_sm (wt : Nat → Nat) : List Nat → Nat
  | [] => 0
  | a :: R => wt a + hl_sm wt R
/-- a column, from below, once its shelves have broken -/
def hl_bk (kd wt : Nat → Nat) : List Nat → List Nat
  | [] => []
  | a :: R => if kd a = 3 ∧ 2 * wt a < hl_sm wt R then hl_bk kd wt R else a :: hl_bk kd wt R
/-- no shelf breaks -/
def hs_n (h : Nat → Nat) (b : Nat → Nat → Nat) (kd wt : Nat → Nat) : Prop := ∀ c, c < 16 → hl_bk kd wt ((List.range (h c)).map (b c)) = (List.range (h c)).map (b c)
def rl_house (S : iz_S) : Prop := ∃ (B w : Nat) (h : Nat → Nat) (b : Nat → Nat → Nat) (kd wt pl : Nat → Nat), hs_c S 13 B w h b kd wt pl ∧ hs_m S B w h b kd wt pl ∧ hs_i B w h b kd wt pl ∧ (w ≤ 100 ∧ hs_n h b kd wt) ∧ ∀ i, i < 5 → S.1 104 i = S.1 13 (6 + i)
def rl_ord (S : iz_S) : Prop := ∃ n : Nat, n ≤ 10 ∧ S.1 38 0 = nI n ∧ S.1 82 14 = nI n ∧ S.1 104 5 = S.1 38 2 ∧ S.1 38 1 = nI (fa_ct (fun i => decide (S.1 44 i ≠ 0)) n) ∧
  ∀ i, i < 10 → S.1 95 i = S.1 40 i ∧ S.1 96 i = S.1 41 i ∧ S.1 97 i = S.1 42 i ∧ S.1 98 i = S.1 43 i ∧ S.1 99 i = S.1 39 i ∧ S.1 100 i = S.1 44 i ∧ (S.1 44 i = 0 ∨ S.1 44 i = 1) ∧ (n ≤ i → S.1 44 i = 0) ∧
    (i < n → ∃ g lw up hr pr : Nat, g ≤ 2 ∧ 1 ≤ lw ∧ lw ≤ 2000 ∧ up ≤ 100 ∧ hr ≤ 20 ∧ 1 ≤ pr ∧ pr ≤ 1000 ∧ S.1 40 i = nI g ∧ S.1 41 i = nI lw ∧ S.1 42 i = nI up ∧ S.1 43 i = nI hr ∧ S.1 39 i = nI pr)
def rl_rail (S : iz_S) : Prop := ∃ n : Nat, n ≤ 9 ∧ S.1 55 0 = nI n ∧ S.1 82 21 = nI n ∧ ∀ i, i < n → ∃ pr ck wy : Nat, 1 ≤ pr ∧ pr ≤ 100 ∧ ck ≤ 60 ∧ wy ≤ 30 ∧ S.1 57 i = nI pr ∧ S.1 101 i = nI pr ∧ S.1 56 i = nI ck ∧ S.1 102 i = nI ck ∧ S.1 58 i = nI wy ∧ S.1 103 i = nI wy
def rl_wait (S : iz_S) : Prop := ∃ n : Nat, n ≤ 16 ∧ S.1 79 0 = nI n ∧ S.1 82 26 = nI n ∧ ∀ i, i < n → S.1 80 i = S.1 105 i
def rl_sale (S : iz_S) : Prop := (∀ i, i < 10 → S.1 51 i = 0) ∧ ∀ i, i < 3 → S.1 52 i = 0
def rl (S : iz_S) : Prop := rl_lake S ∧ rl_shel S ∧ rl_house S ∧ rl_ord S ∧ rl_rail S ∧ rl_wait S ∧ rl_sale S ∧ rl_found S
/-- places whose numbers didn't change: by a test on place and number -/
def fr (ch : Nat → Nat → Bool) (S T : iz_S) : Prop := ∀ p i, ch p i = false → T.1 p i = S.1 p i
theorem fr_rf (ch : Nat → Nat → Bool) (S : iz_S) : fr ch S S := fun _ _ _ => rfl
theorem fr_tr {ch : Nat → Nat → Bool} {S T U : iz_S} (h1 : fr ch S T) (h2 : fr ch T U) : fr ch S U := fun p i h => (h2 p i h).trans (h1 p i h)
theorem fr_or {c1 c2 : Nat → Nat → Bool} {S T U : iz_S} (h1 : fr c1 S T) (h2 : fr c2 T U) : fr (fun p i => c1 p i || c2 p i) S U := fun p i h => by
  simp only [Bool.or_eq_false_iff] at h
  exact (h2 p i h.2).trans (h1 p i h.1)
theorem fr_mono {c1 c2 : Nat → Nat → Bool} {S T : iz_S} (h : fr c1 S T) (hc : ∀ p i, c1 p i = true → c2 p i = true) : fr c2 S T := fun p i h2 => h p i (by
  cases h3 : c1 p i with
  | false => rfl
  | true => rw [hc p i h3] at h2; cases h2)
theorem fr_up {ch : Nat → Nat → Bool} {S T : iz_S} {p i : Nat} {v : Int32} (h : fr ch S T) (hc : ch p i = true) : fr ch S (iz_up T p i v) := fun q j h2 => by
  rw [up_ne T p i v (by
    by_cases e : q = p
    · right; intro e2; subst e; subst e2; rw [hc] at h2; cases h2
    · exact Or.inl e)]
  exact h q j h2
theorem st_lake {ch : Nat → Nat → Bool} {S T : iz_S} (hf : fr ch S T) (hc : ∀ i, ch 2 i = false ∧ ch 3 i = false ∧ ch 4 i = false ∧ ch 83 i = false ∧ ch 84 i = false ∧ ch 85 i = false) (h : rl_lake S) : rl_lake T := by
  intro c hc9
  obtain ⟨c1, c2, c3, c4, c5, c6⟩ := hc c
  rw [hf _ _ c1, hf _ _ c2, hf _ _ c3, hf _ _ c4, hf _ _ c5, hf _ _ c6]
  exact h c hc9
theorem st_shel {ch : Nat → Nat → Bool} {S T : iz_S} (hf : fr ch S T) (hc : ∀ i, ch 10 i = false ∧ ch 11 i = false ∧ ch 12 i = false ∧ ch 92 i = false ∧ ch 93 i = false ∧ ch 94 i = false) (h : rl_shel S) : rl_shel T := by
  obtain ⟨h1, h2, h3⟩ := h
  refine ⟨fun i hi => ?_, fun i hi => ?_, fun i hi => ?_⟩ <;> obtain ⟨c1, c2, c3, c4, c5, c6⟩ := hc i
  · rw [hf _ _ c1, hf _ _ c4]; exact h1 i hi
  · rw [hf _ _ c2, hf _ _ c5]; exact h2 i hi
  · rw [hf _ _ c3, hf _ _ c6]; exact h3 i hi
theorem st_house {ch : Nat → Nat → Bool} {S T : iz_S} (hf : fr ch S T) (hc : ∀ i, ch 13 i = false ∧ ch 14 i = false ∧ ch 15 i = false ∧ ch 16 i = false ∧ ch 17 i = false ∧ ch 18 i = false ∧ ch 86 i = false ∧ ch 87 i = false ∧ ch 88 i = false ∧ ch 89 i = false ∧ ch 90 i = false ∧ ch 91 i = false) (h1 : ch 82 3 = false) (h2 : ch 82 13 = false) (h3 : ∀ i, i < 5 → ch 104 i = false) (h : rl_house S) : rl_house T := by
  have e13 : T.1 13 = S.1 13 := funext fun i => hf _ _ (hc i).1
  have e14 : T.1 14 = S.1 14 := funext fun i => hf _ _ (hc i).2.1
  have e15 : T.1 15 = S.1 15 := funext fun i => hf _ _ (hc i).2.2.1
  have e16 : T.1 16 = S.1 16 := funext fun i => hf _ _ (hc i).2.2.2.1
  have e17 : T.1 17 = S.1 17 := funext fun i => hf _ _ (hc i).2.2.2.2.1
  have e18 : T.1 18 = S.1 18 := funext fun i => hf _ _ (hc i).2.2.2.2.2.1
  have e86 : T.1 86 = S.1 86 := funext fun i => hf _ _ (hc i).2.2.2.2.2.2.1
  have e87 : T.1 87 = S.1 87 := funext fun i => hf _ _ (hc i).2.2.2.2.2.2.2.1
  have e88 : T.1 88 = S.1 88 := funext fun i => hf _ _ (hc i).2.2.2.2.2.2.2.2.1
  have e89 : T.1 89 = S.1 89 := funext fun i => hf _ _ (hc i).2.2.2.2.2.2.2.2.2.1
  have e90 : T.1 90 = S.1 90 := funext fun i => hf _ _ (hc i).2.2.2.2.2.2.2.2.2.2.1
  have e91 : T.1 91 = S.1 91 := funext fun i => hf _ _ (hc i).2.2.2.2.2.2.2.2.2.2.2
  obtain ⟨B, w, hh, b, kd, wt, pl, g1, g2, g3, g4, g5⟩ := h
  refine ⟨B, w, hh, b, kd, wt, pl, ?_, ?_, g3, g4, fun i hi => by rw [e13, hf _ _ (h3 i hi)]; exact g5 i hi⟩
  · unfold hs_c at g1 ⊢
    rw [e13, e14, e15, e16, e17, e18]
    exact g1
  · unfold hs_m at g2 ⊢
    rw [e86, e87, e88, e89, e90, e91, hf _ _ h1, hf _ _ h2]
    exact g2
theorem st_ord {ch : Nat → Nat → Bool} {S T : iz_S} (hf : fr ch S T) (hc : ∀ i, ch 38 i = false ∧ ch 39 i = false ∧ ch 40 i = false ∧ ch 41 i = false ∧ ch 42 i = false ∧ ch 43 i = false ∧ ch 44 i = false ∧ ch 95 i = false ∧ ch 96 i = false ∧ ch 97 i = false ∧ ch 98 i = false ∧ ch 99 i = false ∧ ch 100 i = false) (h1 : ch 82 14 = false) (h2 : ch 104 5 = false) (h : rl_ord S) : rl_ord T := by
  have e38 : T.1 38 = S.1 38 := funext fun i => hf _ _ (hc i).1
  have e39 : T.1 39 = S.1 39 := funext fun i => hf _ _ (hc i).2.1
  have e40 : T.1 40 = S.1 40 := funext fun i => hf _ _ (hc i).2.2.1
  have e41 : T.1 41 = S.1 41 := funext fun i => hf _ _ (hc i).2.2.2.1
  have e42 : T.1 42 = S.1 42 := funext fun i => hf _ _ (hc i).2.2.2.2.1
  have e43 : T.1 43 = S.1 43 := funext fun i => hf _ _ (hc i).2.2.2.2.2.1
  have e44 : T.1 44 = S.1 44 := funext fun i => hf _ _ (hc i).2.2.2.2.2.2.1
  have e95 : T.1 95 = S.1 95 := funext fun i => hf _ _ (hc i).2.2.2.2.2.2.2.1
  have e96 : T.1 96 = S.1 96 := funext fun i => hf _ _ (hc i).2.2.2.2.2.2.2.2.1
  have e97 : T.1 97 = S.1 97 := funext fun i => hf _ _ (hc i).2.2.2.2.2.2.2.2.2.1
  have e98 : T.1 98 = S.1 98 := funext fun i => hf _ _ (hc i).2.2.2.2.2.2.2.2.2.2.1
  have e99 : T.1 99 = S.1 99 := funext fun i => hf _ _ (hc i).2.2.2.2.2.2.2.2.2.2.2.1
  have e100 : T.1 100 = S.1 100 := funext fun i => hf _ _ (hc i).2.2.2.2.2.2.2.2.2.2.2.2
  unfold rl_ord at h ⊢
  rw [e38, e39, e40, e41, e42, e43, e44, e95, e96, e97, e98, e99, e100, hf _ _ h1, hf _ _ h2]
  exact h
theorem st_rail {ch : Nat → Nat → Bool} {S T : iz_S} (hf : fr ch S T) (hc : ∀ i, ch 55 i = false ∧ ch 56 i = false ∧ ch 57 i = false ∧ ch 58 i = false ∧ ch 101 i = false ∧ ch 102 i = false ∧ ch 103 i = false) (h1 : ch 82 21 = false) (h : rl_rail S) : rl_rail T := by
  have e1 : T.1 55 = S.1 55 := funext fun i => hf _ _ (hc i).1
  have e2 : T.1 56 = S.1 56 := funext fun i => hf _ _ (hc i).2.1
  have e3 : T.1 57 = S.1 57 := funext fun i => hf _ _ (hc i).2.2.1
  have e4 : T.1 58 = S.1 58 := funext fun i => hf _ _ (hc i).2.2.2.1
  have e5 : T.1 101 = S.1 101 := funext fun i => hf _ _ (hc i).2.2.2.2.1
  have e6 : T.1 102 = S.1 102 := funext fun i => hf _ _ (hc i).2.2.2.2.2.1
  have e7 : T.1 103 = S.1 103 := funext fun i => hf _ _ (hc i).2.2.2.2.2.2
  unfold rl_rail at h ⊢
  rw [e1, e2, e3, e4, e5, e6, e7, hf _ _ h1]
  exact h
theorem st_wait {ch : Nat → Nat → Bool} {S T : iz_S} (hf : fr ch S T) (hc : ∀ i, ch 79 i = false ∧ ch 80 i = false ∧ ch 105 i = false) (h1 : ch 82 26 = false) (h : rl_wait S) : rl_wait T := by
  have e1 : T.1 79 = S.1 79 := funext fun i => hf _ _ (hc i).1
  have e2 : T.1 80 = S.1 80 := funext fun i => hf _ _ (hc i).2.1
  have e3 : T.1 105 = S.1 105 := funext fun i => hf _ _ (hc i).2.2
  unfold rl_wait at h ⊢
  rw [e1, e2, e3, hf _ _ h1]
  exact h
theorem st_sale {ch : Nat → Nat → Bool} {S T : iz_S} (hf : fr ch S T) (hc : ∀ i, ch 51 i = false ∧ ch 52 i = false) (h : rl_sale S) : rl_sale T :=
  ⟨fun i hi => by rw [hf _ _ (hc i).1]; exact h.1 i hi, fun i hi => by rw [hf _ _ (hc i).2]; exact h.2 i hi⟩
theorem st_found {ch : Nat → Nat → Bool} {S T : iz_S} (hf : fr ch S T) (hc : ∀ i, ch 81 i = false ∧ ch 106 i = false) (h : rl_found S) : rl_found T := fun i hi => by
  rw [hf _ _ (hc i).1, hf _ _ (hc i).2]; exact h i hi
