/-! PURE: the two ways to say it belong together -/
def rl_hl (S : iz_S) (B w : Nat) (kd wt : Nat → Nat) (sh : Nat → Bool) (col : Nat → List Nat) : Prop := hvc S 13 B w kd wt sh col ∧ hvm S B w kd wt sh col ∧ hvi B w kd wt sh col ∧ w ≤ 100 ∧ (∀ c, c < 16 → hl_bk kd wt (col c) = col c) ∧ ∀ i, i < 5 → S.1 104 i = S.1 13 (6 + i)
theorem l_house {S : iz_S} {B w : Nat} {kd wt : Nat → Nat} {sh : Nat → Bool} {col : Nat → List Nat} (h : rl_hl S B w kd wt sh col) : rl_house S := by
  obtain ⟨h1, h2, h3, h4, h5, h6⟩ := h
  refine ⟨B, w, hl_h col, hl_b col, kd, hl_w sh col wt, hl_p sh col, hvc_c h1, hvm_m h3 h2, hvi_i h3, ⟨h4, fun c hc => ?_⟩, h6⟩
  have e : (List.range (hl_h col c)).map (hl_b col c) = col c := rng_b (col c)
  rw [e, bk_cong (wt := hl_w sh col wt) (wt2 := wt) (L := col c) (fun i hi => w_in hc hi), h5 c hc]
theorem house_l {S : iz_S} (h : rl_house S) : ∃ (B w : Nat) (kd wt : Nat → Nat) (sh : Nat → Bool) (col : Nat → List Nat), rl_hl S B w kd wt sh col := by
  obtain ⟨B, w, hh, b, kd, wt, pl, hc, hm, hi, ⟨hw, hn⟩, hl⟩ := h
  obtain ⟨col, hcol⟩ : ∃ col : Nat → List Nat, col = fun c => (List.range (hh c)).map (b c) := ⟨_, rfl⟩
  have ec : ∀ c, col c = (List.range (hh c)).map (b c) := fun c => by rw [hcol]
  have eh : ∀ c, hl_h col c = hh c := fun c => by unfold hl_h; rw [ec]; simp
  have eb : ∀ c l, l < hh c → hl_b col c l = b c l := fun c l q => by
    unfold hl_b
    rw [ec]
    exact rng_g q
  have em : ∀ c i, i ∈ col c ↔ ∃ l, l < hh c ∧ b c l = i := fun c i => by rw [ec]; simp
  have ei : ∀ i, i < B → (hl_in col i = true ↔ pl i = 1) := fun i hiB => by
    rw [in_iff]
    constructor
    · rintro ⟨c, c16, q⟩
      obtain ⟨l, l1, rfl⟩ := (em c i).mp q
      exact (hi.2.2.2.2.1 c l c16 l1).2
    · intro q
      obtain ⟨c, l, c16, l1, e⟩ := hi.2.2.2.2.2.2 i hiB q
      exact ⟨c, c16, (em c i).mpr ⟨l, l1, e⟩⟩
  obtain ⟨sh, hsh⟩ : ∃ sh : Nat → Bool, ∀ i, sh i = true ↔ pl i = 0 := ⟨fun i => decide (pl i = 0), fun i => by simp⟩
  have ew : ∀ i, i < B → hl_w sh col wt i = wt i := fun i hiB => by
    unfold hl_w
    have p2 := (hi.2.2.1 i hiB).2.2
    by_cases a : sh i = true
    · rw [if_pos a]
    · rw [if_neg a]
      by_cases a2 : hl_in col i = true
      · rw [if_pos a2]
      · rw [if_neg a2]
        rw [hsh] at a
        rw [ei i hiB] at a2
        exact (p2.2 (by omega)).symm
  have ep : ∀ i, i < B → hl_p sh col i = pl i := fun i hiB => by
    unfold hl_p
    have p2 := (hi.2.2.1 i hiB).2.2
    by_cases a : sh i = true
    · rw [if_pos a, (hsh i).mp a]
    · rw [if_neg a]
      by_cases a2 : hl_in col i = true
      · rw [if_pos a2, (ei i hiB).mp a2]
      · rw [if_neg a2]
        rw [hsh] at a
        rw [ei i hiB] at a2
        omega
  have vi : hvi B w kd wt sh col := by
    refine ⟨hi.1, hi.2.1, fun i q => ⟨(hi.2.2.1 i q).1, (hi.2.2.1 i q).2.1⟩, fun c c16 => ⟨?_, ?_⟩, fun c i c16 q => ?_, fun c c2 i c16 c216 q q2 => ?_⟩
    · have := hi.2.2.2.1 c c16
      rw [← eh] at this
      exact this
    · rw [List.nodup_iff_pairwise_ne, List.pairwise_iff_getElem]
      intro i j hi1 hj1 hij e
      have e1 : (col c)[i] = b c i := by
        have : (col c)[i]? = some (b c i) := by
          rw [ec, List.getElem?_map, List.getElem?_range (by rw [← eh]; exact hi1)]
          rfl
        rw [List.getElem?_eq_getElem hi1] at this
        exact Option.some.inj this
      have e2 : (col c)[j] = b c j := by
        have : (col c)[j]? = some (b c j) := by
          rw [ec, List.getElem?_map, List.getElem?_range (by rw [← eh]; exact hj1)]
          rfl
        rw [List.getElem?_eq_getElem hj1] at this
        exact Option.some.inj this
      rw [e1, e2] at e
      have := (hi.2.2.2.2.2.1 c i c j c16 (by rw [← eh]; exact hi1) c16 (by rw [← eh]; exact hj1) e).2
      omega
    · obtain ⟨l, l1, rfl⟩ := (em c i).mp q
      obtain ⟨g1, g2⟩ := hi.2.2.2.2.1 c l c16 l1
      refine ⟨g1, ?_⟩
      cases a : sh (b c l) with
      | false => rfl
      | true => rw [(hsh _).mp a] at g2; omega
    · obtain ⟨l, l1, e⟩ := (em c i).mp q
      obtain ⟨l2, l21, e2⟩ := (em c2 i).mp q2
      exact (hi.2.2.2.2.2.1 c l c2 l2 c16 l1 c216 l21 (e.trans e2.symm)).1
  refine ⟨B, w, kd, wt, sh, col, ⟨hc.1, hc.2.1, fun i q => ?_, fun c c16 => ?_, fun c l c16 q => ?_⟩, ⟨hm.1, hm.2.1, ⟨fun i q => ?_, fun c c16 => ?_, fun c l c16 q => ?_⟩, fun c i c16 q => ?_, fun i hiB q => ?_⟩, vi, hw, fun c c16 => ?_, hl⟩
  · rw [ew i q, ep i q]; exact hc.2.2.1 i q
  · rw [eh]; exact hc.2.2.2.1 c c16
  · rw [eh] at q; rw [eb c l q]; exact hc.2.2.2.2 c l c16 q
  · rw [ew i q, ep i q]; exact hm.2.2.1 i q
  · rw [eh]; exact hm.2.2.2.1 c c16
  · rw [eh] at q; rw [eb c l q]; exact hm.2.2.2.2.1 c l c16 q
  · obtain ⟨l, l1, rfl⟩ := (em c i).mp q
    exact hm.2.2.2.2.2.1 c l c16 l1
  · refine hm.2.2.2.2.2.2 i hiB (fun e => ?_)
    rw [(ei i hiB).mpr e] at q
    cases q
  · rw [ec]; exact hn c c16
/-- fewer blocks, less weight: still a house -/
theorem hvi_sub {B w w2 : Nat} {kd wt wt2 : Nat → Nat} {sh : Nat → Bool} {col col2 : Nat → List Nat} (h : hvi B w kd wt sh col) (hs : ∀ c, c < 16 → (col2 c).Sublist (col c)) (hw : ∀ i, wt2 i ≤ wt i) (hw2 : w2 ≤ 200) : hvi B w2 kd wt2 sh col2 := by
  obtain ⟨h1, h2, h3, h4, h5, h6⟩ := h
  refine ⟨h1, hw2, fun i hi => ⟨(h3 i hi).1, Nat.le_trans (hw i) (h3 i hi).2⟩, fun c hc => ⟨Nat.le_trans (hs c hc).length_le (h4 c hc).1, List.Sublist.nodup (hs c hc) (h4 c hc).2⟩, fun c i hc q => h5 c i hc ((hs c hc).subset q), fun c c2 i hc hc2 q q2 => h6 c c2 i hc hc2 ((hs c hc).subset q) ((hs c2 hc2).subset q2)⟩
theorem hvg_st {S T : iz_S} {kp wp pp hp sp B : Nat} {kd wt : Nat → Nat} {sh : Nat → Bool} {col : Nat → List Nat} (h : hvg S kp wp pp hp sp B kd wt sh col) (e1 : ∀ i, i < B → T.1 kp i = S.1 kp i) (e2 : ∀ i, i < B → T.1 wp i = S.1 wp i) (e3 : ∀ i, i < B → T.1 pp i = S.1 pp i) (e4 : ∀ i, i < 16 → T.1 hp i = S.1 hp i) (e5 : ∀ i, i < 96 → T.1 sp i = S.1 sp i) (h6 : ∀ c, c < 16 → (col c).length ≤ 6) : hvg T kp wp pp hp sp B kd wt sh col := by
  refine ⟨fun i hi => ?_, fun c hc => ?_, fun c l hc hl => ?_⟩
  · rw [e1 i hi, e2 i hi, e3 i hi]; exact h.1 i hi
  · rw [e4 c hc]; exact h.2.1 c hc
  · have := h6 c hc
    unfold hl_h at hl
    rw [e5 _ (by omega)]; exact h.2.2 c l hc hl
theorem get_l {K R : List Nat} {l : Nat} (h : l < K.length) : (K ++ R)[l]? = K[l]? := List.getElem?_append_left h
theorem get_r {K R : List Nat} {l : Nat} (h : K.length ≤ l) : (K ++ R)[l]? = R[l - K.length]? := List.getElem?_append_right h
theorem mem_mid {K R : List Nat} {a i : Nat} (h : i ∈ K ++ R) : i ∈ K ++ a :: R := by
  rcases List.mem_append.mp h with q | q
  · exact List.mem_append_left _ q
  · exact List.mem_append_right _ (List.mem_cons_of_mem _ q)
theorem mem_mid' {K R : List Nat} {a i : Nat} (h : i ∈ K ++ a :: R) (ha : i ≠ a) : i ∈ K ++ R := by
  rcases List.mem_append.mp h with q | q
  · exact List.mem_append_left _ q
  · rcases List.mem_cons.mp q with q | q
    · exact absurd q ha
    · exact List.mem_append_right _ q
/-- who is in a house, when a block goes -/
theorem in_out {col : Nat → List Nat} {c a : Nat} {K R : List Nat} (c16 : c < 16) (e : col c = K ++ a :: R) {i : Nat} (h : i ≠ a) : hl_in (hl_r col c (K ++ R)) i = hl_in col i := by
  rw [Bool.eq_iff_iff, in_iff, in_iff]
  constructor
  · rintro ⟨k, hk, q⟩
    by_cases ek : k = c
    · subst ek
      rw [r_same] at q
      exact ⟨k, hk, by rw [e]; exact mem_mid q⟩
    · rw [r_ne ek] at q
      exact ⟨k, hk, q⟩
  · rintro ⟨k, hk, q⟩
    by_cases ek : k = c
    · subst ek
      rw [e] at q
      exact ⟨k, hk, by rw [r_same]; exact mem_mid' q h⟩
    · exact ⟨k, hk, by rw [r_ne ek]; exact q⟩
theorem in_gone {col : Nat → List Nat} {c a : Nat} {K R : List Nat} (c16 : c < 16) (e : col c = K ++ a :: R) (hn : (col c).Nodup) (h6 : ∀ c c2 i, c < 16 → c2 < 16 → i ∈ col c → i ∈ col c2 → c = c2) : hl_in (hl_r col c (K ++ R)) a = false := by
  cases q : hl_in (hl_r col c (K ++ R)) a with
  | false => rfl
  | true =>
    exfalso
    obtain ⟨k, hk, q⟩ := in_iff.mp q
    by_cases ek : k = c
    · subst ek
      rw [r_same] at q
      rw [e, List.nodup_append] at hn
      obtain ⟨n1, n2, n3⟩ := hn
      rcases List.mem_append.mp q with q | q
      · exact n3 a q a List.mem_cons_self rfl
      · exact (List.nodup_cons.mp n2).1 q
    · rw [r_ne ek] at q
      exact ek (h6 k c a hk c16 q (by rw [e]; simp))
theorem hvg_out {S T : iz_S} {kp wp pp hp sp B w : Nat} {kd wt : Nat → Nat} {sh : Nat → Bool} {col : Nat → List Nat} (h : hvg S kp wp pp hp sp B kd wt sh col) (hi : hvi B w kd wt sh col) {c a : Nat} {K R : List Nat} (c16 : c < 16) (e : col c = K ++ a :: R)
    (f1 : T.1 kp = S.1 kp) (f2 : ∀ i, i ≠ a → T.1 wp i = S.1 wp i) (f2a : T.1 wp a = 0) (f3 : ∀ i, i ≠ a → T.1 pp i = S.1 pp i) (f3a : T.1 pp a = 2) (f4 : ∀ i, i ≠ c → T.1 hp i = S.1 hp i) (f4c : T.1 hp c = nI (K.length + R.length))
    (f5 : ∀ i, ¬ (6 * c + K.length ≤ i ∧ i < 6 * c + K.length + R.length) → T.1 sp i = S.1 sp i) (f5s : ∀ i, 6 * c + K.length ≤ i ∧ i < 6 * c + K.length + R.length → T.1 sp i = S.1 sp (i + 1)) : hvg T kp wp pp hp sp B kd wt sh (hl_r col c (K ++ R)) := by
  obtain ⟨h1, h2, h3, h4, h5, h6⟩ := hi
  have hsa : sh a = false := (h5 c a c16 (by rw [e]; simp)).2
  have hl6 := (h4 c c16).1
  rw [e] at hl6
  simp only [List.length_append, List.length_cons] at hl6
  have ga := in_gone c16 e (h4 c c16).2 h6
  refine ⟨fun i hi => ?_, fun k hk => ?_, fun k l hk hl => ?_⟩
  · obtain ⟨g1, g2, g3⟩ := h.1 i hi
    rw [f1]
    by_cases ea : i = a
    · subst ea
      unfold hl_w hl_p
      rw [f2a, f3a, hsa, ga]
      exact ⟨g1, rfl, rfl⟩
    · rw [f2 i ea, f3 i ea]
      unfold hl_w at g2 ⊢
      unfold hl_p at g3 ⊢
      rw [in_out c16 e ea]
      exact ⟨g1, g2, g3⟩
  · unfold hl_h
    by_cases ek : k = c
    · subst ek
      rw [r_same, f4c, List.length_append]
    · rw [r_ne ek, f4 k ek]
      exact h.2.1 k hk
  · unfold hl_h at hl
    by_cases ek : k = c
    · subst ek
      rw [r_same, List.length_append] at hl
      unfold hl_b
      rw [r_same]
      by_cases hlk : l < K.length
      · rw [f5 _ (by omega), get_l hlk]
        have := h.2.2 k l hk (by unfold hl_h; rw [e, List.length_append]; omega)
        unfold hl_b at this
        rw [e, get_l hlk] at this
        exact this
      · rw [f5s _ (by omega), get_r (by omega)]
        have := h.2.2 k (l + 1) hk (by unfold hl_h; rw [e, List.length_append, List.length_cons]; omega)
        unfold hl_b at this
        rw [e, get_r (by omega), show l + 1 - K.length = (l - K.length) + 1 by omega, List.getElem?_cons_succ] at this
        exact this
    · rw [r_ne ek] at hl
      have := (h4 k hk).1
      rw [f5 _ (by omega)]
      unfold hl_b
      rw [r_ne ek]
      exact h.2.2 k l hk hl
