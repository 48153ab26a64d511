/-! PURE: the best dust, pure -/
def bd_d (i x : Nat) : Nat := if i = 0 then x / 1331 else if i = 1 then x / 121 % 11 else if i = 2 then x / 11 % 11 else x % 11
def bd_s (x : Nat) : Nat := x / 1331 + x / 121 % 11 + x / 11 % 11 + x % 11
def bd_k (T : Nat → Nat) (n x : Nat) : Option Nat := if bd_s x ≤ n then some (T x * 64 + bd_s x) else none
/-- what is kept -/
def bd_p (T : Nat → Nat) (M : Nat) (q : Option (Nat × Nat)) (a b : Int32) (L : Nat → Int32) : Prop := match q with
  | none => a = nI M ∧ b = nI M
  | some p => a = nI (T p.2) ∧ b = nI (bd_s p.2) ∧ ∀ i, i < 4 → L i = nI (bd_d i p.2)
def bd_j (a b : Option (Nat × Nat)) : Option (Nat × Nat) := match a, b with
  | none, b => b
  | some p, none => some p
  | some p, some q => if q.1 < p.1 then some q else some p
theorem bd_jn (a : Option (Nat × Nat)) : bd_j a none = a := by cases a <;> rfl
theorem mn_add (g : Nat → Option Nat) (m : Nat) : ∀ j, mn g (m + j) = bd_j (mn g m) ((mn (fun i => g (m + i)) j).map (fun q => (q.1, m + q.2)))
  | 0 => (bd_jn _).symm
  | j + 1 => by
    have ih := mn_add g m j
    cases e : g (m + j) with
    | none =>
      rw [← Nat.add_assoc, mn_s0 e, ih]
      exact congrArg (fun z => bd_j (mn g m) (Option.map _ z)) (mn_s0 (g := fun i => g (m + i)) e).symm
    | some v =>
      cases e2 : mn (fun i => g (m + i)) j with
      | none =>
        rw [e2] at ih
        rw [mn_s1 (g := fun i => g (m + i)) e e2, ← Nat.add_assoc]
        cases e3 : mn g m with
        | none =>
          rw [e3] at ih
          rw [mn_s1 e ih]
          rfl
        | some p =>
          rw [e3] at ih
          rw [mn_s2 e ih]
          rfl
      | some q =>
        rw [e2] at ih
        rw [mn_s2 (g := fun i => g (m + i)) e e2, ← Nat.add_assoc]
        cases e3 : mn g m with
        | none =>
          rw [e3] at ih
          rw [mn_s2 e ih]
          show (if v < q.1 then some (v, m + j) else some (q.1, m + q.2)) = bd_j none (Option.map (fun q => (q.1, m + q.2)) (if v < q.1 then some (v, j) else some q))
          split <;> rfl
        | some p =>
          rw [e3] at ih
          have ih2 : mn g (m + j) = if q.1 < p.1 then some (q.1, m + q.2) else some p := ih
          show mn g (m + j + 1) = bd_j (some p) (Option.map (fun q => (q.1, m + q.2)) (if v < q.1 then some (v, j) else some q))
          by_cases c1 : q.1 < p.1
          · rw [if_pos c1] at ih2
            rw [mn_s2 e ih2]
            by_cases c2 : v < q.1
            · rw [if_pos c2, if_pos c2]
              show _ = if v < p.1 then _ else _
              rw [if_pos (by omega)]
            · rw [if_neg c2, if_neg c2]
              show _ = if q.1 < p.1 then _ else _
              rw [if_pos c1]
          · rw [if_neg c1] at ih2
            rw [mn_s2 e ih2]
            by_cases c2 : v < q.1
            · rw [if_pos c2]
              rfl
            · rw [if_neg c2, if_neg (by omega)]
              show _ = if q.1 < p.1 then _ else _
              rw [if_neg c1]
/-- the first of the fewest -/
def bd_f (s : Nat → Nat) : Nat → Nat
  | 0 => 0
  | j + 1 => if s (j + 1) < s (bd_f s j) then j + 1 else bd_f s j
theorem bd_fl (s : Nat → Nat) : ∀ j, bd_f s j ≤ j
  | 0 => Nat.le_refl 0
  | j + 1 => by
    have := bd_fl s j
    rw [bd_f]
    split <;> omega
theorem bd_b1 {T s : Nat → Nat} {n m B c : Nat} (hT : ∀ i, i < 11 → T (m + i) = B + s i) (hs : ∀ i, i < 11 → bd_s (m + i) = c + i) : ∀ j, j ≤ 10 → c + j ≤ n → mn (fun i => bd_k T n (m + i)) (j + 1) = some ((B + s (bd_f s j)) * 64 + (c + bd_f s j), bd_f s j)
  | 0, _, h => by
    refine mn_s1 ?_ rfl
    show bd_k T n (m + 0) = _
    unfold bd_k
    rw [hs 0 (by omega), if_pos h, hT 0 (by omega)]
    rfl
  | j + 1, h10, h => by
    have ih := bd_b1 (n := n) hT hs j (by omega) (by omega)
    have e : bd_k T n (m + (j + 1)) = some ((B + s (j + 1)) * 64 + (c + (j + 1))) := by
      unfold bd_k
      rw [hs (j + 1) (by omega), if_pos h, hT (j + 1) (by omega)]
    rw [mn_s2 (g := fun i => bd_k T n (m + i)) e ih]
    have l := bd_fl s j
    rw [bd_f]
    by_cases q : s (j + 1) < s (bd_f s j)
    · rw [if_pos q, if_pos (by show _ < (B + s (bd_f s j)) * 64 + (c + bd_f s j); omega)]
    · rw [if_neg q, if_neg (by show ¬ _ < (B + s (bd_f s j)) * 64 + (c + bd_f s j); omega)]
/-- a block of eleven -/
theorem bd_b {T s : Nat → Nat} {n m B c : Nat} (hT : ∀ i, i < 11 → T (m + i) = B + s i) (hs : ∀ i, i < 11 → bd_s (m + i) = c + i) {j : Nat} (hj : j = if n - c < 10 then n - c else 10) (hc : c ≤ n) : mn (bd_k T n) (m + 11) = bd_j (mn (bd_k T n) m) (some (T (m + bd_f s j) * 64 + bd_s (m + bd_f s j), m + bd_f s j)) := by
  have j10 : j ≤ 10 ∧ c + j ≤ n ∧ (j = 10 ∨ c + j = n) := by rw [hj]; split <;> omega
  have l := bd_fl s j
  rw [mn_add, mn_ext (a := j + 1) (m := 11) (by omega) (fun i h1 h2 => by
    show bd_k T n (m + i) = none
    unfold bd_k
    rw [hs i h2, if_neg (by omega)]), bd_b1 hT hs j j10.1 j10.2.1, hT _ (by omega), hs _ (by omega)]
  rfl
theorem bd_u {T : Nat → Nat} {n a m : Nat} (h : a ≤ m) (hn : ∀ x, a ≤ x → x < m → n < bd_s x) : mn (bd_k T n) m = mn (bd_k T n) a := mn_ext h (fun b h1 h2 => by
  have := hn b h1 h2
  unfold bd_k
  rw [if_neg (by omega)])
theorem bd_1 {T : Nat → Nat} {n m : Nat} (h : bd_s m ≤ n) : mn (bd_k T n) (m + 1) = bd_j (mn (bd_k T n) m) (some (T m * 64 + bd_s m, m)) := by
  have e : bd_k T n m = some (T m * 64 + bd_s m) := by unfold bd_k; rw [if_pos h]
  cases e2 : mn (bd_k T n) m with
  | none => rw [mn_s1 e e2]; rfl
  | some q => rw [mn_s2 e e2]; rfl
theorem bd_sl {x : Nat} (h : x < 14641) : bd_s x ≤ 40 := by unfold bd_s; omega
theorem bd_sx (a b c d : Nat) (ha : a < 11) (hb : b < 11) (hc : c < 11) (hd : d < 11) : (1331 * a + 121 * b + 11 * c + d) / 1331 = a ∧ (1331 * a + 121 * b + 11 * c + d) / 121 % 11 = b ∧ (1331 * a + 121 * b + 11 * c + d) / 11 % 11 = c ∧ (1331 * a + 121 * b + 11 * c + d) % 11 = d := by
  refine ⟨?_, ?_, ?_, ?_⟩ <;> omega
/-- whether the next is kept -/
theorem bd_c {T : Nat → Nat} {n M m : Nat} {q : Option (Nat × Nat)} {a b : Int32} {L : Nat → Int32} (hq : q = mn (bd_k T n) m) (m4 : m ≤ 14641) (hp : bd_p T M q a b L) (hT : ∀ x, T x < 1000000) (hM : 1000000 ≤ M) (hM2 : M < 2 ^ 31) {x : Nat} (hx : x < 14641) :
    ((nI (T x) < a ∨ nI (T x) = a ∧ nI (bd_s x) < b) → bd_j q (some (T x * 64 + bd_s x, x)) = some (T x * 64 + bd_s x, x)) ∧ (¬ (nI (T x) < a ∨ nI (T x) = a ∧ nI (bd_s x) < b) → bd_j q (some (T x * 64 + bd_s x, x)) = q) := by
  have t := hT x
  have s := bd_sl hx
  cases q with
  | none =>
    refine ⟨fun _ => rfl, fun h => (h (Or.inl ?_)).elim⟩
    rw [hp.1]
    exact nI_lt (by omega) hM2
  | some p =>
    obtain ⟨pv, pb⟩ := p
    obtain ⟨h1, h2, -⟩ := mn_spec hq.symm
    have t2 := hT pb
    have s2 := bd_sl (x := pb) (by omega)
    have pv2 : pv = T pb * 64 + bd_s pb := by
      unfold bd_k at h2
      split at h2
      · exact (Option.some.inj h2).symm
      · cases h2
    have ea : a = nI (T pb) := hp.1
    have eb : b = nI (bd_s pb) := hp.2.1
    have e1 : (nI (T x) < a) = (T x < T pb) := by rw [ea]; exact propext (nI_ltI (by omega) (by omega))
    have e2 : (nI (T x) = a) = (T x = T pb) := by rw [ea]; exact propext (nI_eq (by omega) (by omega))
    have e3 : (nI (bd_s x) < b) = (bd_s x < bd_s pb) := by rw [eb]; exact propext (nI_ltI (by omega) (by omega))
    rw [e1, e2, e3]
    refine ⟨fun h => ?_, fun h => ?_⟩
    · show (if T x * 64 + bd_s x < pv then _ else _) = _
      rw [if_pos (by omega)]
    · show (if T x * 64 + bd_s x < pv then _ else _) = _
      rw [if_neg (by omega)]
