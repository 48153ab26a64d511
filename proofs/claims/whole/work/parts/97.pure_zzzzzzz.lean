/-! PURE: sales, the end -/
theorem sal_e1 {S V : iz_S} (h : rl S) (h79 : V.1 79 0 = 0) (h26 : V.1 82 26 = 0) (h100 : ∀ k, k < 10 → V.1 100 k = S.1 100 k) (h91 : ∀ c, c < 16 → V.1 91 c = S.1 91 c) (h51 : ∀ i, i < 10 → V.1 51 i = 0) (h52 : ∀ i, i < 3 → V.1 52 i = 0) (hf : ∀ p i, fch2 p i = false → ¬ (p = 79 ∧ i = 0) → ¬ (p = 82 ∧ i = 26) → V.1 p i = S.1 p i) : rl V := by
  refine rl_sal (rl_wt0 h) (fun k hk => ?_) (fun c hc => ?_) h51 h52 (fun p i q => ?_)
  · rw [h100 k hk]; unfold wt0; rw [up_p _ _ _ _ (by decide), up_p _ _ _ _ (by decide)]
  · rw [h91 c hc]; unfold wt0; rw [up_p _ _ _ _ (by decide), up_p _ _ _ _ (by decide)]
  · unfold wt0
    by_cases e26 : p = 82 ∧ i = 26
    · obtain ⟨rfl, rfl⟩ := e26
      rw [h26, up_same]
    · rw [up_ne _ _ _ _ (by omega)]
      by_cases e79 : p = 79 ∧ i = 0
      · obtain ⟨rfl, rfl⟩ := e79
        rw [h79, up_same]
      · rw [up_ne _ _ _ _ (by omega), hf p i q e79 e26]
theorem sal_e2 {S V : iz_S} (h : rl S) {k : Nat} (h79 : V.1 79 0 = 0) (h26 : V.1 82 26 = 0) (h100 : ∀ k, k < 10 → V.1 100 k = S.1 100 k) (h91 : ∀ c, c < 16 → V.1 91 c = S.1 91 c) (h51 : ∀ i, i < 10 → V.1 51 i = 0) (h52 : ∀ i, i < 3 → V.1 52 i = 0) (h81 : V.1 81 k = S.1 81 k + 1) (h106 : V.1 106 k = S.1 106 k + 1) (hf : ∀ p i, fch2 p i = false → ¬ (p = 79 ∧ i = 0) → ¬ (p = 82 ∧ i = 26) → ¬ (p = 81 ∧ i = k) → ¬ (p = 106 ∧ i = k) → V.1 p i = S.1 p i) : rl V := by
  obtain ⟨Z, hZ⟩ : ∃ Z, Z = iz_up (iz_up V 81 k (S.1 81 k)) 106 k (S.1 106 k) := ⟨_, rfl⟩
  have z : ∀ p i, ¬ (p = 81 ∧ i = k) → ¬ (p = 106 ∧ i = k) → Z.1 p i = V.1 p i := fun p i q1 q2 => by rw [hZ, up_ne _ _ _ _ (by omega), up_ne _ _ _ _ (by omega)]
  have z81 : Z.1 81 k = S.1 81 k := by rw [hZ, up_p _ _ _ _ (by decide), up_same]
  have z106 : Z.1 106 k = S.1 106 k := by rw [hZ, up_same]
  have rZ : rl Z := sal_e1 h (by rw [z 79 0 (by omega) (by omega)]; exact h79) (by rw [z 82 26 (by omega) (by omega)]; exact h26) (fun i hi => by rw [z 100 i (by omega) (by omega)]; exact h100 i hi) (fun i hi => by rw [z 91 i (by omega) (by omega)]; exact h91 i hi) (fun i hi => by rw [z 51 i (by omega) (by omega)]; exact h51 i hi) (fun i hi => by rw [z 52 i (by omega) (by omega)]; exact h52 i hi) (fun p i q1 q2 q3 => by
    by_cases e1 : p = 81 ∧ i = k
    · obtain ⟨rfl, rfl⟩ := e1; exact z81
    · by_cases e2 : p = 106 ∧ i = k
      · obtain ⟨rfl, rfl⟩ := e2; exact z106
      · rw [z p i e1 e2]; exact hf p i q1 q2 q3 e1 e2)
  exact rl_fnd (k := k) rZ (fun p i q1 q2 => (z p i q1 q2).symm) (by rw [z81]; exact h81) (by rw [z106]; exact h106)
