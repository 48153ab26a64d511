/-! PURE: sales, class: the plan -/
def sb_D (V : iz_S) (n N : Nat) (pr : Nat → Nat) (fit : Nat → Nat → Nat → Bool) (D : List Nat) (k : Nat) : Prop := D.length ≤ k ∧ (∀ x, x ∈ D → x < k) ∧ D.Pairwise (fun a b => pr b ≤ pr a) ∧ (∀ i x, D[i]? = some x → V.1 50 i = nI x) ∧ V.1 45 10 = nI D.length ∧ (∀ x p t, x < k → p < N → t < 4 → fit x p t = true → x ∈ D) ∧ ∀ x p t, x < k → p < N → t < 4 → V.1 49 ((x * 3 + p) * 4 + t) = bI_ (fit x p t)
theorem sb_17 {S : iz_S} {n N : Nat} {pr col hc : Nat → Nat} {fit : Nat → Nat → Nat → Bool} (hf : sb_f S n N pr col hc) (hw : sb_w S n N col hc fit) : ∀ (j k m : Nat) (D : List Nat) (V : iz_S), k + j = n → j < m → fr fsb S V → V.1 45 1 = 0 → V.1 45 2 = 0 → sb_D V n N pr fit D k → ∃ V2 D2, Sa_plan_17 45 m (nI k) V = iz_bV (Sa_tryRows 10 45 0 0 V2) (fun S4 => some S4) ∧ sb_D V2 n N pr fit D2 n ∧ V2.1 45 1 = 0 ∧ V2.1 45 2 = 0 ∧ fr fsb S V2 := by
  obtain ⟨n10, N3, f1, f2, f3, f4⟩ := id hf
  intro j
  induction j with
  | zero =>
    intro k m D V hj hm hv v1 v2 hD
    obtain ⟨m, rfl⟩ : ∃ q, m = q + 1 := ⟨m - 1, by omega⟩
    obtain rfl : k = n := by omega
    have lt : ¬ nI k < nI k := nI_nlt (by omega) (by omega)
    refine ⟨V, D, ?_, hD, v1, v2, hv⟩
    show Sa_plan_17b 45 (Sa_plan_17 45 m) (nI k) V = _
    rw [Sa_plan_17b, show iz_rf 45 6 = 38 from rfl, hv 38 0 rfl, f2, if_neg lt]
  | succ j ih =>
    intro k m D V hj hm hv v1 v2 hD
    obtain ⟨m, rfl⟩ : ∃ q, m = q + 1 := ⟨m - 1, by omega⟩
    have kn : k < n := by omega
    have lt : nI k < nI n := nI_lt (by omega) (by omega)
    obtain ⟨d1, d2, d3, d4, d5, d6, d7⟩ := hD
    obtain ⟨b, V1, a1, a2, a3, a4, a5⟩ := sb_4 hf hw kn N 0 iz_FU false V (by omega) (by have := fu_ge; omega) hv
    have fV1 : fr fsb S V1 := fr_tr hv (fr_mono a5 (fun q i hq => by simp only [beq_iff_eq] at hq; simp [fsb, hq]))
    have head : Sa_plan_17 45 (m + 1) (nI k) V = if bI_ b = 0 then Sa_plan_41 45 (Sa_plan_17 45 m) (nI k) V1 else iz_bV (Sa_enlist 45 (nI k) V1) (fun S7 => Sa_plan_41 45 (Sa_plan_17 45 m) (nI k) S7) := by
      show Sa_plan_17b 45 (Sa_plan_17 45 m) (nI k) V = _
      rw [Sa_plan_17b, show iz_rf 45 6 = 38 from rfl, hv 38 0 rfl, f2, if_pos lt, Sa_fillFits, show Sa_fillFits_4 45 iz_FU (nI k) 0 0 V = _ from a1, bI_s]
    have s49 : ∀ x p t, x < k + 1 → p < N → t < 4 → V1.1 49 ((x * 3 + p) * 4 + t) = bI_ (fit x p t) := fun x p t h1 h2 h3 => by
      by_cases e : x = k
      · rw [e]; exact a3 p t (Nat.zero_le _) h2 h3
      · rw [a4 _ (Or.inl (by omega))]; exact d7 x p t (by omega) h2 h3
    rw [head]
    cases b with
    | false =>
      rw [if_pos (show bI_ false = 0 from rfl), Sa_plan_41, nI_1]
      obtain ⟨V2, D2, b1, b2, b3, b4, b5⟩ := ih (k + 1) m D V1 (by omega) (by omega) fV1 ((a5 45 1 rfl).trans v1) ((a5 45 2 rfl).trans v2) ⟨by omega, fun x hx => by have := d2 x hx; omega, d3, fun i x hx => (a5 50 i rfl).trans (d4 i x hx), (a5 45 10 rfl).trans d5, fun x p t h1 h2 h3 h4 => by
        by_cases e : x = k
        · rw [e] at h4
          have := a2.mpr (Or.inr ⟨p, t, Nat.zero_le _, h2, h3, h4⟩)
          cases this
        · exact d6 x p t (by omega) h2 h3 h4, s49⟩
      exact ⟨V2, D2, b1, b2, b3, b4, b5⟩
    | true =>
      rw [if_neg (show ¬ bI_ true = 0 by decide)]
      obtain ⟨W, A1, A2, c1, c2, c3, c4, c5, c6, c7⟩ := sb_en hf kn iz_FU D [] V1 (by have := fu_ge; omega) (by show D.length + 0 ≤ 9; omega) (fun x hx => by have := d2 x hx; omega) fV1 d3 (fun i x hx => (a5 50 i rfl).trans (d4 i x hx)) (fun i x hx => by simp at hx) ((a5 45 10 rfl).trans d5)
      rw [List.append_nil] at c5
      have fW : fr fsb S W := fr_tr fV1 (fr_mono c7 (fun q i hq => by
        simp only [Bool.or_eq_true, Bool.and_eq_true, beq_iff_eq] at hq
        simp only [fsb, Bool.or_eq_true, Bool.and_eq_true, beq_iff_eq]
        omega))
      have mem : ∀ x, x ∈ A1 ++ k :: A2 ↔ x = k ∨ x ∈ D := fun x => by
        rw [c2, List.mem_append, List.mem_cons, List.mem_append]
        constructor
        · rintro (h | h | h)
          · exact Or.inr (Or.inl h)
          · exact Or.inl h
          · exact Or.inr (Or.inr h)
        · rintro (h | h | h)
          · exact Or.inr (Or.inl h)
          · exact Or.inl h
          · exact Or.inr (Or.inr h)
      have len : (A1 ++ k :: A2).length = D.length + 1 := by
        rw [c2, List.length_append, List.length_append, List.length_cons]
        omega
      rw [c2] at d3
      have pw := List.pairwise_append.mp d3
      obtain ⟨V2, D2, b1, b2, b3, b4, b5⟩ := ih (k + 1) m (A1 ++ k :: A2) W (by omega) (by omega) fW (((c7 45 1 rfl).trans (a5 45 1 rfl)).trans v1) (((c7 45 2 rfl).trans (a5 45 2 rfl)).trans v2) ⟨by rw [len]; omega, fun x hx => by
        rcases (mem x).mp hx with h | h
        · omega
        · have := d2 x h; omega, List.pairwise_append.mpr ⟨pw.1, List.pairwise_cons.mpr ⟨fun x hx => c4 x hx, pw.2.1⟩, fun x hx y hy => by
          rcases List.mem_cons.mp hy with h | h
          · rw [h]; exact c3 x hx
          · exact pw.2.2 x hx y h⟩, c5, by rw [c6, len]; rfl, fun x p t h1 h2 h3 h4 => (mem x).mpr (by
        by_cases e : x = k
        · exact Or.inl e
        · exact Or.inr (d6 x p t (by omega) h2 h3 h4)), fun x p t h1 h2 h3 => (c7 49 _ rfl).trans (s49 x p t h1 h2 h3)⟩
      refine ⟨V2, D2, ?_, b2, b3, b4, b5⟩
      rw [Sa_enlist, lt_e, (a5 45 10 rfl).trans d5, c1, bV_s, Sa_plan_41, nI_1]
      exact b1
