/-! THE END: all calls alike, the law answers true -/
theorem st_0 {A B : iz_S → Option (Int32 × iz_S)} {S : iz_S} {kk : iz_S → Option Int32} (hp : pc A B S) (hk : ∀ T, rl T → kk T = some 1) : iz_bI (A S) (fun r S1 => iz_bI (B S1) (fun r2 S3 => if r = r2 then kk S3 else some 0)) = some 1 := by
  obtain ⟨z, z1, z2, z3, z4, z5⟩ := hp
  rw [z1]
  show iz_bI (B z.2) (fun r2 S3 => if z.1 = r2 then kk S3 else some 0) = some 1
  rw [z3]
  show (if z.1 = z2.1 then kk z2.2 else some 0) = some 1
  rw [if_pos z4.symm]
  exact hk _ z5
theorem st_1 {b1 : Bool} {A B : iz_S → Option (Int32 × iz_S)} {S : iz_S} {kk : iz_S → Option Int32} (h1 : b1 = true) (hp : pc A B S) (hk : ∀ T, rl T → kk T = some 1) : iz_ck b1 (iz_bI (A S) (fun r S1 => iz_ck b1 (iz_bI (B S1) (fun r2 S3 => if r = r2 then kk S3 else some 0)))) = some 1 := by
  obtain ⟨z, z1, z2, z3, z4, z5⟩ := hp
  subst h1
  simp only [ck_t]
  rw [z1]
  show iz_bI (B z.2) (fun r2 S3 => if z.1 = r2 then kk S3 else some 0) = some 1
  rw [z3]
  show (if z.1 = z2.1 then kk z2.2 else some 0) = some 1
  rw [if_pos z4.symm]
  exact hk _ z5
theorem st_2 {b1 b2 : Bool} {A B : iz_S → Option (Int32 × iz_S)} {S : iz_S} {kk : iz_S → Option Int32} (h1 : b1 = true) (h2 : b2 = true) (hp : pc A B S) (hk : ∀ T, rl T → kk T = some 1) : iz_ck b1 (iz_ck b2 (iz_bI (A S) (fun r S1 => iz_ck b1 (iz_ck b2 (iz_bI (B S1) (fun r2 S3 => if r = r2 then kk S3 else some 0)))))) = some 1 := by
  obtain ⟨z, z1, z2, z3, z4, z5⟩ := hp
  subst h1
  subst h2
  simp only [ck_t]
  rw [z1]
  show iz_bI (B z.2) (fun r2 S3 => if z.1 = r2 then kk S3 else some 0) = some 1
  rw [z3]
  show (if z.1 = z2.1 then kk z2.2 else some 0) = some 1
  rw [if_pos z4.symm]
  exact hk _ z5
theorem st_3 {b1 b2 b3 : Bool} {A B : iz_S → Option (Int32 × iz_S)} {S : iz_S} {kk : iz_S → Option Int32} (h1 : b1 = true) (h2 : b2 = true) (h3 : b3 = true) (hp : pc A B S) (hk : ∀ T, rl T → kk T = some 1) : iz_ck b1 (iz_ck b2 (iz_ck b3 (iz_bI (A S) (fun r S1 => iz_ck b1 (iz_ck b2 (iz_ck b3 (iz_bI (B S1) (fun r2 S3 => if r = r2 then kk S3 else some 0)))))))) = some 1 := by
  obtain ⟨z, z1, z2, z3, z4, z5⟩ := hp
  subst h1
  subst h2
  subst h3
  simp only [ck_t]
  rw [z1]
  show iz_bI (B z.2) (fun r2 S3 => if z.1 = r2 then kk S3 else some 0) = some 1
  rw [z3]
  show (if z.1 = z2.1 then kk z2.2 else some 0) = some 1
  rw [if_pos z4.symm]
  exact hk _ z5
theorem st_4 {b1 b2 b3 b4 : Bool} {A B : iz_S → Option (Int32 × iz_S)} {S : iz_S} {kk : iz_S → Option Int32} (h1 : b1 = true) (h2 : b2 = true) (h3 : b3 = true) (h4 : b4 = true) (hp : pc A B S) (hk : ∀ T, rl T → kk T = some 1) : iz_ck b1 (iz_ck b2 (iz_ck b3 (iz_ck b4 (iz_bI (A S) (fun r S1 => iz_ck b1 (iz_ck b2 (iz_ck b3 (iz_ck b4 (iz_bI (B S1) (fun r2 S3 => if r = r2 then kk S3 else some 0)))))))))) = some 1 := by
  obtain ⟨z, z1, z2, z3, z4, z5⟩ := hp
  subst h1
  subst h2
  subst h3
  subst h4
  simp only [ck_t]
  rw [z1]
  show iz_bI (B z.2) (fun r2 S3 => if z.1 = r2 then kk S3 else some 0) = some 1
  rw [z3]
  show (if z.1 = z2.1 then kk z2.2 else some 0) = some 1
  rw [if_pos z4.symm]
  exact hk _ z5
theorem st_5 {b1 b2 b3 b4 b5 : Bool} {A B : iz_S → Option (Int32 × iz_S)} {S : iz_S} {kk : iz_S → Option Int32} (h1 : b1 = true) (h2 : b2 = true) (h3 : b3 = true) (h4 : b4 = true) (h5 : b5 = true) (hp : pc A B S) (hk : ∀ T, rl T → kk T = some 1) : iz_ck b1 (iz_ck b2 (iz_ck b3 (iz_ck b4 (iz_ck b5 (iz_bI (A S) (fun r S1 => iz_ck b1 (iz_ck b2 (iz_ck b3 (iz_ck b4 (iz_ck b5 (iz_bI (B S1) (fun r2 S3 => if r = r2 then kk S3 else some 0)))))))))))) = some 1 := by
  obtain ⟨z, z1, z2, z3, z4, z5⟩ := hp
  subst h1
  subst h2
  subst h3
  subst h4
  subst h5
  simp only [ck_t]
  rw [z1]
  show iz_bI (B z.2) (fun r2 S3 => if z.1 = r2 then kk S3 else some 0) = some 1
  rw [z3]
  show (if z.1 = z2.1 then kk z2.2 else some 0) = some 1
  rw [if_pos z4.symm]
  exact hk _ z5
theorem ct_v (p i : Nat) (h1 : p ≠ 12) (h2 : p ≠ 94) : ct_S1.1 p i = 0 := by
  unfold ct_S1 ct_fl
  show (if p = 94 then _ else _ : Nat → Int32) i = 0
  rw [if_neg h2]
  show (if p = 12 then _ else _ : Nat → Int32) i = 0
  rw [if_neg h1]
  rfl
theorem ct_12 (i : Nat) (h : i < 100) : ct_S1.1 12 i = 10 ∧ ct_S1.1 94 i = 10 := by
  constructor
  · show (if i < 100 then (10 : Int32) else 0) = 10
    rw [if_pos h]
  · show (if i < 100 then (10 : Int32) else 0) = 10
    rw [if_pos h]
theorem rl_ct : rl ct_S1 := by
  have v := fun p i (h1 : p ≠ 12) (h2 : p ≠ 94) => ct_v p i h1 h2
  refine ⟨fun c _ => ?_, ⟨fun i _ => ?_, fun i _ => ?_, fun i hi => ?_⟩, ⟨0, 0, fun _ => 0, fun _ _ => 0, fun _ => 0, fun _ => 0, fun _ => 0, ?_, ?_, ?_, ⟨by omega, fun c _ => rfl⟩, fun i _ => ?_⟩, ⟨0, by omega, ?_, ?_, ?_, ?_, fun i _ => ?_⟩, ⟨0, by omega, ?_, ?_, fun i hi => by omega⟩, ⟨0, by omega, ?_, ?_, fun i hi => by omega⟩, ⟨fun i _ => ?_, fun i _ => ?_⟩, fun i _ => ?_⟩
  · rw [v 83 c (by decide) (by decide), v 2 c (by decide) (by decide), v 84 c (by decide) (by decide), v 3 c (by decide) (by decide), v 85 c (by decide) (by decide), v 4 c (by decide) (by decide)]
    exact ⟨rfl, rfl, rfl, 0, 0, 0, by omega, by omega, by omega, rfl, rfl, rfl, fun _ => ⟨rfl, rfl⟩⟩
  · rw [v 92 i (by decide) (by decide), v 10 i (by decide) (by decide)]
    exact ⟨rfl, 0, by omega, rfl⟩
  · rw [v 93 i (by decide) (by decide), v 11 i (by decide) (by decide)]
    exact ⟨rfl, 0, by omega, rfl⟩
  · obtain ⟨a, b⟩ := ct_12 i hi
    rw [a, b]
    exact ⟨rfl, 10, by omega, rfl⟩
  · exact ⟨v 13 0 (by decide) (by decide), v 13 5 (by decide) (by decide), fun i hi => by omega, fun c _ => v 17 c (by decide) (by decide), fun c l _ hl => absurd hl (Nat.not_lt_zero l)⟩
  · exact ⟨v 82 3 (by decide) (by decide), v 82 13 (by decide) (by decide), fun i hi => by omega, fun c _ => v 91 c (by decide) (by decide), fun c l _ hl => absurd hl (Nat.not_lt_zero l), fun c l _ hl => absurd hl (Nat.not_lt_zero l), fun i hi => by omega⟩
  · exact ⟨by omega, by omega, fun i hi => by omega, fun c _ => Nat.zero_le 6, fun c l _ hl => absurd hl (Nat.not_lt_zero l), fun c l c2 l2 _ hl => absurd hl (Nat.not_lt_zero l), fun i hi => by omega⟩
  · rw [v 104 i (by decide) (by decide), v 13 (6 + i) (by decide) (by decide)]
  · exact v 38 0 (by decide) (by decide)
  · exact v 82 14 (by decide) (by decide)
  · rw [v 104 5 (by decide) (by decide), v 38 2 (by decide) (by decide)]
  · exact v 38 1 (by decide) (by decide)
  · rw [v 95 i (by decide) (by decide), v 40 i (by decide) (by decide), v 96 i (by decide) (by decide), v 41 i (by decide) (by decide), v 97 i (by decide) (by decide), v 42 i (by decide) (by decide), v 98 i (by decide) (by decide), v 43 i (by decide) (by decide), v 99 i (by decide) (by decide), v 39 i (by decide) (by decide), v 100 i (by decide) (by decide), v 44 i (by decide) (by decide)]
    exact ⟨rfl, rfl, rfl, rfl, rfl, rfl, Or.inl rfl, fun _ => rfl, fun hi => by omega⟩
  · exact v 55 0 (by decide) (by decide)
  · exact v 82 21 (by decide) (by decide)
  · exact v 79 0 (by decide) (by decide)
  · exact v 82 26 (by decide) (by decide)
  · exact v 51 i (by decide) (by decide)
  · exact v 52 i (by decide) (by decide)
  · rw [v 81 i (by decide) (by decide), v 106 i (by decide) (by decide)]
theorem getD_mem {α : Type} {l : List α} {i : Nat} {d : α} (h : i < l.length) : l.getD i d ∈ l := by
  rw [List.getD_eq_getElem?_getD, List.getElem?_eq_getElem h]
  exact List.getElem_mem h
theorem lw_go {L : Nat} {xs : Nat → Int32} (hL : L ≤ 384) : ∀ (j k n : Nat) (S : iz_S), k + j = 64 → j < n → rl S → Lw_law_18 L xs n (nI (6 * k)) S = some 1 := by
  intro j
  induction j with
  | zero =>
    intro k n S hk hn h
    obtain ⟨m, rfl⟩ : ∃ q, n = q + 1 := ⟨n - 1, by omega⟩
    have le : ¬ nI (6 * k) ≤ Int32.ofNat L - 6 := by
      rw [show Int32.ofNat L = nI L from rfl, show (6 : Int32) = nI 6 from rfl]
      rw [fa_le, nI_tI (by omega), fb_subI (by rw [nI_tI (by omega), nI_tI (by omega)]; omega) (by rw [nI_tI (by omega), nI_tI (by omega)]; omega), nI_tI (by omega), nI_tI (by omega)]
      omega
    show Lw_law_18b L xs (Lw_law_18 L xs m) (nI (6 * k)) S = _
    unfold Lw_law_18b
    rw [if_neg le]
  | succ j ih =>
    intro k n S hk hn h
    obtain ⟨m, rfl⟩ : ∃ q, n = q + 1 := ⟨n - 1, by omega⟩
    have lep : (nI (6 * k) ≤ Int32.ofNat L - 6) = (6 * k + 6 ≤ L) := by
      rw [show Int32.ofNat L = nI L from rfl, show (6 : Int32) = nI 6 from rfl]
      rw [fa_le, nI_tI (by omega), fb_subI (by rw [nI_tI (by omega), nI_tI (by omega)]; omega) (by rw [nI_tI (by omega), nI_tI (by omega)]; omega), nI_tI (by omega), nI_tI (by omega)]
      apply propext
      omega
    show Lw_law_18b L xs (Lw_law_18 L xs m) (nI (6 * k)) S = _
    unfold Lw_law_18b
    by_cases le : 6 * k + 6 ≤ L
    · have i0 := in_ok (n := 6 * k) (N := L) (by omega) (by omega)
      have hi : ∀ x, x < 6 → iz_in (nI (6 * k) + nI x) L = true := fun x hx => by
        rw [nI_add]
        exact in_ok (by omega) (by omega)
      have i1 : iz_in (nI (6 * k) + 1) L = true := hi 1 (by decide)
      have i2 : iz_in (nI (6 * k) + 2) L = true := hi 2 (by decide)
      have i3 : iz_in (nI (6 * k) + 3) L = true := hi 3 (by decide)
      have i4 : iz_in (nI (6 * k) + 4) L = true := hi 4 (by decide)
      have i5 : iz_in (nI (6 * k) + 5) L = true := hi 5 (by decide)
      have hk' : ∀ T, rl T → Lw_law_1250 L xs (Lw_law_18 L xs m) (nI (6 * k)) T = some 1 := fun T hT => by
        rw [Lw_law_1250, show nI (6 * k) + 6 = nI (6 * (k + 1)) from nI_add (6 * k) 6]
        exact ih (k + 1) m T (by omega) (by omega) hT
      obtain ⟨v, v64, ev⟩ : ∃ v : Nat, v < 64 ∧ xs (Int32.toNatClampNeg (nI (6 * k))) &&& 63 = nI v := pk_andE _ 6 (by decide)
      rw [if_pos (by rw [lep]; exact le), i0, ck_t, ev]
      have e35 : ((35 : Nat) : Int) = 35 := rfl
      by_cases v35 : v ≤ 35
      · have sw := fun (os : List (Option Int32)) od => sw_in (os := os) (od := od) (k := v) (hi := 35) v35 (by decide)
        rw [e35] at sw
        rw [sw]
        have mem : ∀ l : List (Option Int32), l.length = 36 → (∀ o, o ∈ l → o = some 1) → l.getD v none = some 1 := fun l hl ha => ha _ (getD_mem (by omega))
        refine mem _ rfl ?_
        simp only [List.forall_mem_cons]
        refine ⟨?_, ?_, ?_, ?_, ?_, ?_, ?_, ?_, ?_, ?_, ?_, ?_, ?_, ?_, ?_, ?_, ?_, ?_, ?_, ?_, ?_, ?_, ?_, ?_, ?_, ?_, ?_, ?_, ?_, ?_, ?_, ?_, ?_, ?_, ?_, ?_, fun o ho => absurd ho List.not_mem_nil⟩
        · exact st_1 i1 (pc_frost h _) hk'
        · exact st_1 i1 (pc_thaw h _) hk'
        · exact st_1 i1 (pc_snow h _) hk'
        · exact st_1 i1 (pc_scrape h _) hk'
        · exact st_2 i1 i2 (pc_cell h _ _) hk'
        · exact st_1 i1 (pc_reached h _) hk'
        · exact st_2 i1 i2 (pc_reach h _ _) hk'
        · exact st_1 i1 (pc_bars h _) hk'
        · exact st_1 i1 (pc_cut h _) hk'
        · exact st_1 i1 (pc_season h _) hk'
        · exact st_2 i1 i2 (pc_put h _ _) hk'
        · exact st_1 i1 (pc_take h _) hk'
        · exact st_2 i1 i2 (pc_move h _ _) hk'
        · exact st_2 i1 i2 (pc_as h _ _) hk'
        · exact st_2 i1 i2 (pc_about h _ _) hk'
        · exact st_2 i1 i2 (pc_at h _ _) hk'
        · exact st_2 i1 i2 (pc_dust h _ _) hk'
        · exact st_2 i1 i2 (pc_cover h _ _) hk'
        · exact st_2 i1 i2 (pc_warmth h _ _) hk'
        · exact st_0 (pc_melts h) hk'
        · exact st_1 i1 (pc_weeks h _) hk'
        · exact st_1 i1 (pc_after h _) hk'
        · exact st_1 i1 (pc_lasts h _) hk'
        · exact st_2 i1 i2 (pc_best h _ _) hk'
        · exact st_5 i1 i2 i3 i4 i5 (pc_order h _ _ _ _ _) hk'
        · exact st_2 i1 i2 (pc_why h _ _) hk'
        · exact st_2 i1 i2 (pc_serve h _ _) hk'
        · exact st_1 i1 (pc_sales h _) hk'
        · exact st_3 i1 i2 i3 (pc_station h _ _ _) hk'
        · exact st_4 i1 i2 i3 i4 (pc_change h _ _ _ _) hk'
        · exact st_3 i1 i2 i3 (pc_icing h _ _ _) hk'
        · exact st_1 i1 (pc_ledger h _) hk'
        · exact st_1 i1 (pc_tell h _) hk'
        · exact st_1 i1 (pc_check h _) hk'
        · exact st_1 i1 (pc_count h _) hk'
        · exact st_1 i1 (pc_found h _) hk'
      · have sw := fun (os : List (Option Int32)) od => sw_out (x := nI v) (os := os) (od := od) (hi := 35) (fun q => v35 ((nI_leI (by omega) (by decide)).mp q.2)) (by decide)
        rw [e35] at sw
        rw [sw]
        exact hk' S h
    · rw [if_neg (by rw [lep]; exact le)]
theorem lw_main {L : Nat} {xs : Nat → Int32} (hL : L ≤ 384) : Lw_law_18 L xs iz_FU 0 ct_S1 = some 1 :=
  lw_go hL 64 0 iz_FU ct_S1 (by omega) (by have := fu_ge; omega) rl_ct
