/-! PURE: the railway: least costs -/
/-- the least of g 0 .. g (m - 1), and where it comes first -/
def mn (g : Nat → Option Nat) : Nat → Option (Nat × Nat)
  | 0 => none
  | m + 1 => match g m with
    | none => mn g m
    | some v => match mn g m with
      | none => some (v, m)
      | some q => if v < q.1 then some (v, m) else some q
theorem mn_s0 {g : Nat → Option Nat} {m : Nat} (h : g m = none) : mn g (m + 1) = mn g m := by rw [mn, h]
theorem mn_s1 {g : Nat → Option Nat} {m v : Nat} (h : g m = some v) (h2 : mn g m = none) : mn g (m + 1) = some (v, m) := by rw [mn, h, h2]
theorem mn_s2 {g : Nat → Option Nat} {m v : Nat} {q : Nat × Nat} (h : g m = some v) (h2 : mn g m = some q) : mn g (m + 1) = if v < q.1 then some (v, m) else some q := by rw [mn, h, h2]
theorem mn_none {g : Nat → Option Nat} : ∀ {m : Nat}, (∀ b, b < m → g b = none) → mn g m = none
  | 0, _ => rfl
  | m + 1, h => by rw [mn_s0 (h m (by omega)), mn_none (fun b hb => h b (by omega))]
theorem mn_ext {g : Nat → Option Nat} {a : Nat} : ∀ {m : Nat}, a ≤ m → (∀ b, a ≤ b → b < m → g b = none) → mn g m = mn g a
  | 0, h, _ => by rw [show a = 0 by omega]
  | m + 1, h, h2 => by
    by_cases e : a = m + 1
    · rw [e]
    · rw [mn_s0 (h2 m (by omega) (by omega)), mn_ext (by omega) (fun b h3 h4 => h2 b h3 (by omega))]
theorem mn_spec {g : Nat → Option Nat} : ∀ {m v b : Nat}, mn g m = some (v, b) → b < m ∧ g b = some v ∧ (∀ c u, c < b → g c = some u → v < u) ∧ ∀ c u, c < m → g c = some u → v ≤ u
  | 0, v, b, h => by rw [mn] at h; cases h
  | m + 1, v, b, h => by
    cases e : g m with
    | none =>
      rw [mn_s0 e] at h
      obtain ⟨h1, h2, h3, h4⟩ := mn_spec h
      refine ⟨by omega, h2, h3, fun c u hc hu => ?_⟩
      by_cases ec : c = m
      · rw [ec, e] at hu; cases hu
      · exact h4 c u (by omega) hu
    | some w =>
      cases e2 : mn g m with
      | none =>
        rw [mn_s1 e e2] at h
        obtain ⟨rfl, rfl⟩ := Prod.mk.inj (Option.some.inj h)
        have nn : ∀ c u, c < m → g c = some u → False := by
          have : ∀ m, mn g m = none → ∀ c u, c < m → g c = some u → False := by
            intro m
            induction m with
            | zero => intro _ c u hc; omega
            | succ m ih =>
              intro hm c u hc hu
              cases em : g m with
              | none =>
                rw [mn_s0 em] at hm
                by_cases ec : c = m
                · rw [ec, em] at hu; cases hu
                · exact ih hm c u (by omega) hu
              | some z =>
                cases em2 : mn g m with
                | none => rw [mn_s1 em em2] at hm; cases hm
                | some q => rw [mn_s2 em em2] at hm; split at hm <;> cases hm
          exact this m e2
        refine ⟨by omega, e, fun c u hc hu => (nn c u hc hu).elim, fun c u hc hu => ?_⟩
        by_cases ec : c = m
        · rw [ec, e] at hu
          exact Nat.le_of_eq (Option.some.inj hu)
        · exact (nn c u (by omega) hu).elim
      | some q =>
        rw [mn_s2 e e2] at h
        obtain ⟨qv, qb⟩ := q
        obtain ⟨h1, h2, h3, h4⟩ := mn_spec e2
        by_cases lt : w < qv
        · rw [if_pos lt] at h
          obtain ⟨rfl, rfl⟩ := Prod.mk.inj (Option.some.inj h)
          refine ⟨by omega, e, fun c u hc hu => ?_, fun c u hc hu => ?_⟩
          · have := h4 c u hc hu; omega
          · by_cases ec : c = m
            · rw [ec, e] at hu
              exact Nat.le_of_eq (Option.some.inj hu)
            · have := h4 c u (by omega) hu; omega
        · rw [if_neg lt] at h
          obtain ⟨rfl, rfl⟩ := Prod.mk.inj (Option.some.inj h)
          refine ⟨by omega, h2, h3, fun c u hc hu => ?_⟩
          by_cases ec : c = m
          · rw [ec, e] at hu
            have := Option.some.inj hu
            omega
          · exact h4 c u (by omega) hu
/-- what it costs to buy b there, with f for the rest -/
def cst (pr ck wy : Nat → Nat) (r : Nat) (f : Nat → Option Nat) (k c b : Nat) : Option Nat := if b ≤ ck k ∧ c + b ≤ r ∧ wy k ≤ c + b then (f (c + b - wy k)).map (fun v => v + b * pr k) else none
/-- least cost from j stations ahead of the last -/
def icf (pr ck wy : Nat → Nat) (r n : Nat) : Nat → Nat → Option Nat
  | 0, _ => some 0
  | j + 1, c => (mn (cst pr ck wy r (icf pr ck wy r n j) (n - 2 - j) c) (r + 1)).map Prod.fst
def fk (pr ck wy : Nat → Nat) (r n k : Nat) : Nat → Option Nat := icf pr ck wy r n (n - 1 - k)
def bk_ (pr ck wy : Nat → Nat) (r n k c : Nat) : Option (Nat × Nat) := mn (cst pr ck wy r (fk pr ck wy r n (k + 1)) k c) (r + 1)
theorem fk_last (pr ck wy : Nat → Nat) (r n c : Nat) : fk pr ck wy r n (n - 1) c = some 0 := by
  unfold fk
  rw [Nat.sub_self]
  rfl
theorem fk_s {pr ck wy : Nat → Nat} {r n k : Nat} (h : k + 1 < n) (c : Nat) : fk pr ck wy r n k c = (bk_ pr ck wy r n k c).map Prod.fst := by
  unfold fk bk_
  rw [show n - 1 - k = (n - 2 - k) + 1 by omega, icf]
  unfold fk
  rw [show n - 2 - (n - 2 - k) = k by omega, show n - 1 - (k + 1) = n - 2 - k by omega]
theorem icf_le {pr ck wy : Nat → Nat} {r n : Nat} (hr : r ≤ 60) (hp : ∀ k, pr k ≤ 100) : ∀ {j c v : Nat}, icf pr ck wy r n j c = some v → v ≤ 6000 * j
  | 0, c, v, h => by
    rw [icf] at h
    have := Option.some.inj h
    omega
  | j + 1, c, v, h => by
    rw [icf] at h
    cases e : mn (cst pr ck wy r (icf pr ck wy r n j) (n - 2 - j) c) (r + 1) with
    | none => rw [e] at h; cases h
    | some q =>
      obtain ⟨qv, qb⟩ := q
      rw [e] at h
      obtain rfl : qv = v := Option.some.inj h
      obtain ⟨h1, h2, -⟩ := mn_spec e
      unfold cst at h2
      split at h2
      · cases e2 : icf pr ck wy r n j (c + qb - wy (n - 2 - j)) with
        | none => rw [e2] at h2; cases h2
        | some u =>
          rw [e2] at h2
          have e3 : u + qb * pr (n - 2 - j) = qv := Option.some.inj h2
          have h3 := icf_le (j := j) hr hp e2
          have h4 : qb * pr (n - 2 - j) ≤ 60 * 100 := Nat.mul_le_mul (by omega) (hp _)
          rw [Nat.mul_succ]
          omega
      · cases h2
theorem fk_le {pr ck wy : Nat → Nat} {r n k c v : Nat} (hr : r ≤ 60) (hp : ∀ k, pr k ≤ 100) (hn : n ≤ 9) (h : fk pr ck wy r n k c = some v) : v ≤ 48000 := by
  have := icf_le hr hp h
  have h2 : 6000 * (n - 1 - k) ≤ 6000 * 8 := Nat.mul_le_mul_left 6000 (by omega)
  omega
def eC : Option Nat → Int32
  | none => -1
  | some v => nI v
def eM : Option Nat → Int32
  | none => 1000000
  | some v => nI v
def eB : Option (Nat × Nat) → Int32
  | none => 0
  | some q => nI q.2
theorem rf59 : ∀ k, k < 9 → iz_rf 59 k = 60 + k ∧ iz_rf 69 k = 70 + k := by decide +kernel
/-- a station's facts, class -/
def rs (S : iz_S) (n : Nat) (pr ck wy : Nat → Nat) : Prop := S.1 55 0 = nI n ∧ ∀ k, k < n → S.1 57 k = nI (pr k) ∧ S.1 56 k = nI (ck k) ∧ S.1 58 k = nI (wy k)
def rm_ (S : iz_S) (n : Nat) (pr ck wy : Nat → Nat) : Prop := S.1 82 21 = nI n ∧ ∀ k, k < n → S.1 101 k = nI (pr k) ∧ S.1 102 k = nI (ck k) ∧ S.1 103 k = nI (wy k)
def rb (n : Nat) (pr ck wy : Nat → Nat) : Prop := n ≤ 9 ∧ (∀ k, pr k ≤ 100) ∧ (∀ k, ck k ≤ 60) ∧ ∀ k, wy k ≤ 30
theorem rail_f {S : iz_S} (h : rl_rail S) : ∃ n pr ck wy, rs S n pr ck wy ∧ rm_ S n pr ck wy ∧ rb n pr ck wy := by
  obtain ⟨n, n9, h1, h2, h3⟩ := h
  have key : ∀ (p b i : Nat), (∃ x : Nat, x ≤ b ∧ S.1 p i = nI x) → b ≤ 100 → S.1 p i = nI (min (S.1 p i).toNatClampNeg b) := fun p b i ⟨x, hx, e⟩ hb => by
    rw [e, nI_clamp (by omega), Nat.min_eq_left hx]
  have a1 : ∀ k, k < n → S.1 57 k = nI (min (S.1 57 k).toNatClampNeg 100) := fun k hk => by
    obtain ⟨pr, ck, wy, q1, q2, q3, q4, q5, q6, q7, q8, q9, q10⟩ := h3 k hk
    exact key 57 100 k ⟨pr, q2, q5⟩ (by omega)
  have a2 : ∀ k, k < n → S.1 56 k = nI (min (S.1 56 k).toNatClampNeg 60) := fun k hk => by
    obtain ⟨pr, ck, wy, q1, q2, q3, q4, q5, q6, q7, q8, q9, q10⟩ := h3 k hk
    exact key 56 60 k ⟨ck, q3, q7⟩ (by omega)
  have a3 : ∀ k, k < n → S.1 58 k = nI (min (S.1 58 k).toNatClampNeg 30) := fun k hk => by
    obtain ⟨pr, ck, wy, q1, q2, q3, q4, q5, q6, q7, q8, q9, q10⟩ := h3 k hk
    exact key 58 30 k ⟨wy, q4, q9⟩ (by omega)
  refine ⟨n, fun k => min (S.1 57 k).toNatClampNeg 100, fun k => min (S.1 56 k).toNatClampNeg 60, fun k => min (S.1 58 k).toNatClampNeg 30, ⟨h1, fun k hk => ⟨a1 k hk, a2 k hk, a3 k hk⟩⟩, ⟨h2, fun k hk => ?_⟩, n9, fun k => Nat.min_le_right _ _, fun k => Nat.min_le_right _ _, fun k => Nat.min_le_right _ _⟩
  obtain ⟨pr, ck, wy, q1, q2, q3, q4, q5, q6, q7, q8, q9, q10⟩ := h3 k hk
  refine ⟨?_, ?_, ?_⟩
  · rw [q6, ← q5]; exact a1 k hk
  · rw [q8, ← q7]; exact a2 k hk
  · rw [q10, ← q9]; exact a3 k hk
