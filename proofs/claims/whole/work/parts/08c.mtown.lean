/-! ===== the reference's town ===== -/
def law_m (M : Nat → Nat → Int) (b q : Nat) : Option (List Int) := if q < 4 ∧ ¬ M 23 (4 * b + q) = -1 then some (codeL (fun k => tk (M 25 k) (M 26 k)) (1600 * b + (M 23 (4 * b + q)).toNat) (M 24 (4 * b + q) - M 23 (4 * b + q)).toNat) else none
def at_m (M : Nat → Nat → Int) (b : Nat) : m_T := (((M 15 b).toNat, (M 18 b).toNat), (fun i => if i < (M 15 b).toNat then M 16 (8 * b + i) else 0), (fun i => if i < (M 15 b).toNat then M 17 (8 * b + i) else 0), (fun i => if i < (M 18 b).toNat then M 19 (3 * b + i) else 0), (M 20 b, M 21 b, M 22 b), law_m M b)
def MT (μ : m_M) (b : Nat) (A : m_T) : Prop := μ 34 0 13 = (b : Int) ∧ b ≤ 1 ∧ at_m (μ 34) b = A ∧ TA A ∧ 0 ≤ μ 34 15 b ∧ 0 ≤ μ 34 18 b ∧ ∀ q, q < 4 → ¬ μ 34 23 (4 * b + q) = -1 → (0 ≤ μ 34 23 (4 * b + q) ∧ μ 34 23 (4 * b + q) ≤ μ 34 24 (4 * b + q) ∧ μ 34 24 (4 * b + q) ≤ 1600) ∧ ∀ k : Nat, 1600 * (b : Int) + μ 34 23 (4 * b + q) ≤ k → (k : Int) < 1600 * (b : Int) + μ 34 24 (4 * b + q) → μ 34 25 k = 0 → 0 ≤ μ 34 26 k
theorem MT.mv {μ μ1 : m_M} {b : Nat} {A : m_T} (h : MT μ b A) (he : ∀ x c, (x = 0 ∧ c = 13) ∨ (15 ≤ x ∧ x ≤ 26) → μ1 34 x c = μ 34 x c) : MT μ1 b A := by
  have e0 := he 0 13 (Or.inl ⟨rfl, rfl⟩)
  have e15 : μ1 34 15 = μ 34 15 := by funext c; exact he 15 c (Or.inr (by omega))
  have e16 : μ1 34 16 = μ 34 16 := by funext c; exact he 16 c (Or.inr (by omega))
  have e17 : μ1 34 17 = μ 34 17 := by funext c; exact he 17 c (Or.inr (by omega))
  have e18 : μ1 34 18 = μ 34 18 := by funext c; exact he 18 c (Or.inr (by omega))
  have e19 : μ1 34 19 = μ 34 19 := by funext c; exact he 19 c (Or.inr (by omega))
  have e20 : μ1 34 20 = μ 34 20 := by funext c; exact he 20 c (Or.inr (by omega))
  have e21 : μ1 34 21 = μ 34 21 := by funext c; exact he 21 c (Or.inr (by omega))
  have e22 : μ1 34 22 = μ 34 22 := by funext c; exact he 22 c (Or.inr (by omega))
  have e23 : μ1 34 23 = μ 34 23 := by funext c; exact he 23 c (Or.inr (by omega))
  have e24 : μ1 34 24 = μ 34 24 := by funext c; exact he 24 c (Or.inr (by omega))
  have e25 : μ1 34 25 = μ 34 25 := by funext c; exact he 25 c (Or.inr (by omega))
  have e26 : μ1 34 26 = μ 34 26 := by funext c; exact he 26 c (Or.inr (by omega))
  unfold MT at_m law_m at h ⊢
  rw [e0, e15, e16, e17, e18, e19, e20, e21, e22, e23, e24, e25, e26]
  exact h
theorem MT.off {μ μ1 : m_M} {b : Nat} {A : m_T} (h : MT μ b A) (ho : offM μ μ1) : MT μ1 b A := h.mv (fun x c hx => ho 34 x c (by omega))
theorem MT.nc {μ : m_M} {b : Nat} {A : m_T} (h : MT μ b A) : μ 34 15 b = (tw_nc A : Int) := by
  have e := h.2.2.1
  have := h.2.2.2.2.1
  rw [← e]
  show _ = (((μ 34 15 b).toNat : Nat) : Int)
  omega
theorem MT.nk {μ : m_M} {b : Nat} {A : m_T} (h : MT μ b A) : μ 34 18 b = (tw_nk A : Int) := by
  have e := h.2.2.1
  have := h.2.2.2.2.2.1
  rw [← e]
  show _ = (((μ 34 18 b).toNat : Nat) : Int)
  omega
theorem MT.clay {μ : m_M} {b : Nat} {A : m_T} (h : MT μ b A) {i : Nat} (hi : i < tw_nc A) : μ 34 16 (8 * b + i) = tw_clay A i := by
  have e := h.2.2.1
  rw [← e] at hi ⊢
  exact (if_pos hi).symm
theorem MT.grit {μ : m_M} {b : Nat} {A : m_T} (h : MT μ b A) {i : Nat} (hi : i < tw_nc A) : μ 34 17 (8 * b + i) = tw_grit A i := by
  have e := h.2.2.1
  rw [← e] at hi ⊢
  exact (if_pos hi).symm
theorem MT.room {μ : m_M} {b : Nat} {A : m_T} (h : MT μ b A) {i : Nat} (hi : i < tw_nk A) : μ 34 19 (3 * b + i) = tw_room A i := by
  have e := h.2.2.1
  rw [← e] at hi ⊢
  exact (if_pos hi).symm
theorem MT.law {μ : m_M} {b : Nat} {A : m_T} (h : MT μ b A) (q : Nat) : tw_law A q = law_m (μ 34) b q := by rw [← h.2.2.1]; rfl
theorem MT.told {μ : m_M} {b : Nat} {A : m_T} (h : MT μ b A) {q : Nat} (hq : q < 4) {c : List Int} (hc : tw_law A q = some c) : ∃ a n : Nat, μ 34 23 (4 * b + q) = (a : Int) ∧ μ 34 24 (4 * b + q) = ((a + n : Nat) : Int) ∧ a + n ≤ 1600 ∧ c = codeL (fun k => tk (μ 34 25 k) (μ 34 26 k)) (1600 * b + a) n ∧ ∀ k, 1600 * b + a ≤ k → k < 1600 * b + a + n → μ 34 25 k = 0 → 0 ≤ μ 34 26 k := by
  rw [h.law q] at hc
  unfold law_m at hc
  have hl := h.2.2.2.2.2.2 q hq
  split at hc
  · next hlt =>
    have hl := hl hlt.2
    cases hc
    exact ⟨(μ 34 23 (4 * b + q)).toNat, (μ 34 24 (4 * b + q) - μ 34 23 (4 * b + q)).toNat, by omega, by omega, by omega, rfl, fun k k1 k2 => hl.2 k (by omega) (by omega)⟩
  · cases hc
theorem MT.is {μ : m_M} {b : Nat} {A : m_T} (h : MT μ b A) {q : Nat} (hq : q < 4) : μ 34 23 (4 * b + q) = -1 ↔ tw_law A q = none := by
  rw [h.law q]
  unfold law_m
  by_cases e : μ 34 23 (4 * b + q) = -1
  · rw [if_neg (fun z => z.2 e)]; simp [e]
  · rw [if_pos ⟨hq, e⟩]; simp [e]
theorem c_isTold {G : m_G} {d b q : Nat} {μ : m_M} {A : m_T} (hT : MT μ b A) (hq : q < 4) {K : Int → m_M → Prop} (h : K (if (tw_law A q).isSome then 1 else 0) μ) : c_i G (d + 1) YX12_isTold [vR 34 0, vI (q : Int)] μ K := by
  have hb1 := hT.2.1
  refine EX12_isTold ?_
  rw [hT.1, w_4b hb1 hq, Int.toNat_natCast]
  refine ⟨⟨by omega, by omega⟩, fun c => ?_, fun c => ?_⟩
  · rw [(hT.is hq).mp c] at h; exact h
  · have : ¬ tw_law A q = none := fun z => c ((hT.is hq).mpr z)
    cases hl : tw_law A q with
    | none => exact absurd hl this
    | some f => rw [hl] at h; exact h
theorem p_ev_ok {q : Nat} {env : Int → Int} (he : ∀ op, p_fw q op = true → -1000000 ≤ env op ∧ env op ≤ 1000000) : ∀ (c : List Int) (ts ts' : List Bool) (st : List Int), tcs q c ts = some ts' → stk ts st → stk ts' (p_ev env c st) := by
  intro c
  induction c with
  | nil => intro ts ts' st h hs; cases h; exact hs
  | cons op r ih =>
    intro ts ts' st h hs
    unfold tcs at h
    split at h
    · next t2 h1 =>
      split at h
      · exact ih t2 ts' _ h (p1_ok he h1 hs)
      · cases h
    · cases h
theorem p_val_in {q : Nat} {env : Int → Int} (he : ∀ op, p_fw q op = true → -1000000 ≤ env op ∧ env op ≤ 1000000) {c : List Int} {ty : Bool} (h : tcs q c [] = some [ty]) : sm (p_val env c) ∧ (ty = true → p_val env c = 0 ∨ p_val env c = 1) := by
  have hs := p_ev_ok he c [] [ty] [] h trivial
  unfold p_val
  match hx : p_ev env c [], hs with
  | [v], hs => exact ⟨(stk_bd hs).1, fun e => by subst e; exact hs.1⟩
  | [], hs => cases ty <;> exact hs.elim
  | _ :: _ :: _, hs => exact ((stk_bd hs).2).elim
theorem envM_up {μ : m_M} {j : Nat} {v op : Int} : envM (m_up μ 34 57 j v) op = if us op = j then v else envM μ op := by
  unfold envM
  by_cases h : us op = j
  · rw [if_pos h, h, m_up_at]
  · rw [if_neg h, m_up_ne _ _ (fun z => h z.2.2)]
theorem w_8b {b q : Nat} (hb : b ≤ 21) (hq : q < 8) : w32 (w32 (8 * (b : Int)) + (q : Int)) = ((8 * b + q : Nat) : Int) := by rw [w32_le (z := 8 * (b : Int)) (by omega) (by omega), w32_le (by omega) (by omega)]; omega
theorem w_3b {b q : Nat} (hb : b ≤ 21) (hq : q < 3) : w32 (w32 (3 * (b : Int)) + (q : Int)) = ((3 * b + q : Nat) : Int) := by rw [w32_le (z := 3 * (b : Int)) (by omega) (by omega), w32_le (by omega) (by omega)]; omega
set_option maxRecDepth 20000 in
theorem c_lays {G : m_G} {d b v : Nat} {μ : m_M} {A : m_T} (hT : MT μ b A) (hv : v < 22) {c : Nat} (hc : c < tw_nc A) {heat place : Int} {K : m_M → Prop} (h : ∀ μ1, offM μ μ1 → envM μ1 268 = heat → envM μ1 269 = μ 34 43 v → envM μ1 257 = tw_clay A c → envM μ1 258 = tw_grit A c → envM μ1 270 = place → K μ1) : c_v G (d + 1) YX12_lays [vR 34 0, vI (v : Int), vI (c : Int), vI heat, vI place] μ K := by
  have h8 : c < 8 := Nat.lt_of_lt_of_le hc hT.2.2.2.1.1
  have hb1 := hT.2.1
  refine EX12_lays (fun μ1 e1 => ⟨⟨by omega, by omega⟩, fun μ2 e2 => ?_⟩)
  have o1 : offM μ μ1 := by rw [e1]; exact offM.up (Or.inr rfl)
  have o2 : offM μ μ2 := by rw [e2]; exact o1.tr (offM.up (Or.inr rfl))
  have T2 := hT.off o2
  rw [T2.1, w_8b (by omega) h8, Int.toNat_natCast]
  refine ⟨⟨by omega, by omega⟩, fun μ3 e3 => ?_⟩
  have o3 : offM μ μ3 := by rw [e3]; exact o2.tr (offM.up (Or.inr rfl))
  have T3 := hT.off o3
  rw [T3.1, w_8b (by omega) h8, Int.toNat_natCast]
  refine ⟨⟨by omega, by omega⟩, fun μ4 e4 μ5 e5 => ?_⟩
  have o4 : offM μ μ4 := by rw [e4]; exact o3.tr (offM.up (Or.inr rfl))
  rw [T2.clay hc] at e3
  rw [T3.grit hc] at e4
  rw [Int.toNat_natCast, o1 34 43 v (by omega)] at e2
  have E : ∀ op, envM μ5 op = if us op = 5 then place else if us op = 4 then tw_grit A c else if us op = 3 then tw_clay A c else if us op = 2 then μ 34 43 v else if us op = 1 then heat else envM μ op := fun op => by
    rw [e5, envM_up, e4, envM_up, e3, envM_up, e2, envM_up, e1, envM_up]
  refine h μ5 (by rw [e5]; exact o4.tr (offM.up (Or.inr rfl))) ?_ ?_ ?_ ?_ ?_
  · rw [E]; rfl
  · rw [E]; rfl
  · rw [E]; rfl
  · rw [E]; rfl
  · rw [E]; rfl
set_option maxRecDepth 20000 in
theorem cm_ring {G : m_G} {d b v : Nat} {μ : m_M} {A : m_T} (hT : MT μ b A) (hv : v < 22) {c : Nat} (hc : c < tw_nc A) {heat place : Int} (h1 : sm heat) (h2 : sm place) (h3 : sm (μ 34 43 v)) {K : Int → m_M → Prop} (h : ∀ μ1, offM μ μ1 → K (p_ring A c heat place (μ 34 43 v)) μ1) : c_i G (d + 4) YX12_ring [vR 34 0, vI (v : Int), vI (c : Int), vI heat, vI place] μ K := by
  unfold sm at h1 h2 h3
  refine EX12_ring (c_lays hT hv hc (fun μ1 o1 f1 f2 f3 f4 f5 => ?_))
  have T1 := hT.off o1
  have hTA := hT.2.2.2.1
  have hcl := (hTA.2.2.1 c hc)
  refine c_isTold (q := 0) T1 (by decide) ?_
  have fin : ∀ (x : Int) (μ2 : m_M), sm x → K (p_c99 x) μ2 → ((0 ≤ l_cmp x 0) → ((l_cmp x 99 ≤ 0) → K (w32 x) μ2) ∧ ((¬ l_cmp x 99 ≤ 0) → K 99 μ2)) ∧ ((¬ 0 ≤ l_cmp x 0) → K 0 μ2) := by
    intro x μ2 hx hk
    unfold sm at hx
    unfold p_c99 at hk
    simp only [l_cmp_ge, l_cmp_le]
    refine ⟨fun c => ⟨fun c2 => ?_, fun c2 => ?_⟩, fun c => ?_⟩
    · rw [if_neg (by omega), if_neg (by omega)] at hk; rw [w32_le (by omega) (by omega)]; exact hk
    · rw [if_neg (by omega), if_pos (by omega)] at hk; exact hk
    · rw [if_pos (by omega)] at hk; exact hk
  cases hl : tw_law A 0 with
  | none =>
    refine ⟨fun _ x4 e4 => ?_, fun z => absurd rfl z⟩
    rw [w32_le (by omega) (by omega)] at e4
    subst e4
    have hh := h μ1 o1
    unfold p_ring at hh
    rw [hl] at hh
    have hh : K (p_c99 (4 * heat)) μ1 := hh
    by_cases q : 4 * heat ≤ 1000000
    · by_cases q2 : -1000000 ≤ 4 * heat
      · exact fin _ _ ⟨q2, q⟩ hh
      · simp only [l_cmp_ge, l_cmp_le]
        unfold p_c99 at hh
        rw [if_pos (by omega)] at hh
        exact ⟨fun c => absurd c (by omega), fun _ => hh⟩
    · simp only [l_cmp_ge, l_cmp_le]
      unfold p_c99 at hh
      rw [if_neg (by omega), if_pos (by omega)] at hh
      exact ⟨fun _ => ⟨fun c => absurd c (by omega), fun _ => hh⟩, fun c => absurd (by omega) c⟩
  | some f =>
    refine ⟨fun z => absurd z (by show ¬ (1 : Int) = 0; decide), fun _ => ?_⟩
    obtain ⟨a, n, k1, k2, k3, k4, k5⟩ := T1.told (q := 0) (by decide) hl
    have hw := (hTA.2.2.2.2.2.2.2 0 f hl).2
    have henv : ∀ op, p_fw 0 op = true → envM μ1 op = e_rg A c heat place (μ 34 43 v) op := fun op hop => by
      rcases p_fw0 hop with e | e | e | e | e <;> subst e
      · rw [f1]; rfl
      · rw [f2]; rfl
      · rw [f3]; rfl
      · rw [f4]; rfl
      · rw [f5]; rfl
    have hb0 : ∀ op, p_fw 0 op = true → -1000000 ≤ envM μ1 op ∧ envM μ1 op ≤ 1000000 := fun op hop => by
      rcases p_fw0 hop with e | e | e | e | e <;> subst e
      · rw [f1]; omega
      · rw [f2]; omega
      · rw [f3]; omega
      · rw [f4]; omega
      · rw [f5]; omega
    refine c_reckons (q := 0) (ty := false) T1.1 T1.2.1 (by decide) k1 k2 k3 k5 (by rw [← k4]; exact hw) hb0 (fun μ2 o2 _ => ?_)
    · rw [← k4, p_val_congr henv hw]
      have hh := h μ2 (o1.tr o2)
      unfold p_ring at hh
      rw [hl] at hh
      refine fin _ _ ?_ hh
      rw [← p_val_congr henv hw]
      exact (p_val_in hb0 hw).1
set_option maxRecDepth 20000 in
theorem cm_crk {G : m_G} {d b v : Nat} {μ : m_M} {A : m_T} (hT : MT μ b A) (hv : v < 22) {c : Nat} (hc : c < tw_nc A) {heat place : Int} (h1 : sm heat) (h2 : sm place) (h3 : sm (μ 34 43 v)) {K : Int → m_M → Prop} (h : ∀ μ1, offM μ μ1 → K (if p_crk A c heat place (μ 34 43 v) then 1 else 0) μ1) : c_i G (d + 5) YX12_isCracking [vR 34 0, vI (v : Int), vI (c : Int), vI heat, vI place] μ K := by
  have hTA := hT.2.2.2.1
  have hcl := (hTA.2.2.1 c hc)
  have hri := p_ring_in A c heat place (μ 34 43 v)
  refine EX12_isCracking (c_isTold (q := 1) hT (by decide) ?_)
  cases hl : tw_law A 1 with
  | none =>
    have hh := h μ (offM.rf μ)
    unfold p_crk at hh
    rw [hl] at hh
    exact ⟨fun z => absurd rfl z, fun _ => hh⟩
  | some f =>
    refine ⟨fun _ => ?_, fun z => absurd z (by show ¬ (1 : Int) = 0; decide)⟩
    refine cm_ring hT hv hc h1 h2 h3 (fun μ1 o1 => ?_)
    have T1 := hT.off o1
    have w1 : μ1 34 43 v = μ 34 43 v := o1 34 43 v (by omega)
    refine c_lays T1 hv hc (fun μ2 o2 f1 f2 f3 f4 f5 μ7 e7 => ?_)
    rw [w1] at f2
    have o7 : offM μ μ7 := by rw [e7]; exact (o1.tr o2).tr (offM.up (Or.inr rfl))
    have T7 := hT.off o7
    have g : ∀ op, envM μ7 op = if us op = 6 then p_ring A c heat place (μ 34 43 v) else envM μ2 op := fun op => by rw [e7, envM_up]
    obtain ⟨a, n, k1, k2, k3, k4, k5⟩ := T7.told (q := 1) (by decide) hl
    have hw := (hTA.2.2.2.2.2.2.2 1 f hl).2
    have henv : ∀ op, p_fw 1 op = true → envM μ7 op = (fun op => if op = 271 then p_ring A c heat place (μ 34 43 v) else e_rg A c heat place (μ 34 43 v) op) op := fun op hop => by
      rcases p_fw1 hop with e | e | e | e | e | e <;> subst e
      · rw [g]; exact f1
      · rw [g]; exact f2
      · rw [g]; exact f3
      · rw [g]; exact f4
      · rw [g]; exact f5
      · rw [g]; rfl
    unfold sm at h1 h2 h3
    have hb0 : ∀ op, p_fw 1 op = true → -1000000 ≤ envM μ7 op ∧ envM μ7 op ≤ 1000000 := fun op hop => by
      rw [henv op hop]
      rcases p_fw1 hop with e | e | e | e | e | e <;> subst e
      · show _ ≤ heat ∧ heat ≤ _; omega
      · show _ ≤ μ 34 43 v ∧ μ 34 43 v ≤ _; omega
      · show _ ≤ tw_clay A c ∧ tw_clay A c ≤ _; omega
      · show _ ≤ tw_grit A c ∧ tw_grit A c ≤ _; omega
      · show _ ≤ place ∧ place ≤ _; omega
      · show _ ≤ p_ring A c heat place (μ 34 43 v) ∧ p_ring A c heat place (μ 34 43 v) ≤ _; omega
    refine c_reckons (q := 1) (ty := true) T7.1 T7.2.1 (by decide) k1 k2 k3 k5 (by rw [← k4]; exact hw) hb0 (fun μ8 o8 _ => ?_)
    rw [← k4, p_val_congr henv hw]
    have hh := h μ8 (o7.tr o8)
    unfold p_crk at hh
    rw [hl] at hh
    dsimp only at hh
    simp only [l_cmp_eq]
    refine ⟨fun c => ?_, fun c => ?_⟩
    · rw [if_neg (by simpa using c)] at hh; exact hh
    · rw [if_pos (by simpa using c)] at hh; exact hh
set_option maxRecDepth 20000 in
theorem cm_stk {G : m_G} {d b v : Nat} {μ : m_M} {A : m_T} (hT : MT μ b A) (hv : v < 22) {c e : Nat} (hc : c < tw_nc A) (he : e < tw_nc A) {heat place : Int} (h1 : sm heat) (h2 : 0 ≤ place ∧ place ≤ 100) (h3 : sm (μ 34 43 v)) {K : Int → m_M → Prop} (h : ∀ μ1, offM μ μ1 → K (if p_stk A c e (p_abs (p_ring A c heat place (μ 34 43 v) - p_ring A e heat (place + 1) (μ 34 43 v))) heat (μ 34 43 v) then 1 else 0) μ1) : c_i G (d + 5) YX12_isSticking [vR 34 0, vI (v : Int), vI (c : Int), vI (e : Int), vI heat, vI place] μ K := by
  have hTA := hT.2.2.2.1
  have h8 : c < 8 := Nat.lt_of_lt_of_le hc hTA.1
  have h8e : e < 8 := Nat.lt_of_lt_of_le he hTA.1
  have hb1 := hT.2.1
  have hcl := (hTA.2.2.1 c hc)
  have hcl2 := (hTA.2.2.1 e he)
  have hri := p_ring_in A c heat place (μ 34 43 v)
  have hri2 := p_ring_in A e heat (place + 1) (μ 34 43 v)
  refine EX12_isSticking (c_isTold (q := 2) hT (by decide) ?_)
  cases hl : tw_law A 2 with
  | none =>
    have hh := h μ (offM.rf μ)
    unfold p_stk at hh
    rw [hl] at hh
    exact ⟨fun z => absurd rfl z, fun _ => hh⟩
  | some f =>
    refine ⟨fun _ => ?_, fun z => absurd z (by show ¬ (1 : Int) = 0; decide)⟩
    refine cm_ring hT hv hc h1 (by unfold sm; omega) h3 (fun μ1 o1 => ?_)
    have T1 := hT.off o1
    have w1 : μ1 34 43 v = μ 34 43 v := o1 34 43 v (by omega)
    rw [w32_le (z := place + 1) (by omega) (by omega)]
    refine cm_ring T1 hv he h1 (by unfold sm; omega) (by rw [w1]; exact h3) (fun μ2 o2 x7 e7 μ8 e8 => ⟨⟨by omega, by omega⟩, fun μ9 e9 => ?_⟩)
    rw [w1, w32_le (by omega) (by omega)] at e7
    have o8 : offM μ μ8 := by rw [e8]; exact (o1.tr o2).tr (offM.up (Or.inr rfl))
    rw [Int.toNat_natCast, o8 34 43 v (by omega)] at e9
    have o9 : offM μ μ9 := by rw [e9]; exact o8.tr (offM.up (Or.inr rfl))
    have fin : ∀ (y : Int), y = p_abs x7 → ∀ μ10 : m_M, μ10 = m_up μ9 34 57 7 y → (0 ≤ w32 ((w32 (8 * (μ10 34 0 13))) + (c : Int)) ∧ w32 ((w32 (8 * (μ10 34 0 13))) + (c : Int)) < 16) ∧ (0 ≤ w32 ((w32 (8 * (μ10 34 0 13))) + (e : Int)) ∧ w32 ((w32 (8 * (μ10 34 0 13))) + (e : Int)) < 16) ∧ ∀ μ11 : m_M, μ11 = m_up μ10 34 57 8 (w32 ((μ10 34 17 (w32 ((w32 (8 * (μ10 34 0 13))) + (c : Int))).toNat) + (μ10 34 17 (w32 ((w32 (8 * (μ10 34 0 13))) + (e : Int))).toNat))) → c_l G (d + 4) YX12_reckons [vR 34 0, vI 2] μ11 (fun r13 μ12 => ((¬ (l_cmp r13 1) = 0) → K 0 μ12) ∧ ((l_cmp r13 1 = 0) → K 1 μ12)) := by
      intro y hy μ10 e10
      have o10 : offM μ μ10 := by rw [e10]; exact o9.tr (offM.up (Or.inr rfl))
      have T10 := hT.off o10
      rw [T10.1, w_8b (by omega) h8, w_8b (by omega) h8e, Int.toNat_natCast, Int.toNat_natCast, T10.grit hc, T10.grit he, w32_le (z := tw_grit A c + tw_grit A e) (by omega) (by omega)]
      refine ⟨⟨by omega, by omega⟩, ⟨by omega, by omega⟩, fun μ11 e11 => ?_⟩
      have o11 : offM μ μ11 := by rw [e11]; exact o10.tr (offM.up (Or.inr rfl))
      have T11 := hT.off o11
      have g : ∀ op, envM μ11 op = if us op = 8 then tw_grit A c + tw_grit A e else if us op = 7 then y else if us op = 2 then μ 34 43 v else if us op = 1 then heat else envM μ2 op := fun op => by rw [e11, envM_up, e10, envM_up, e9, envM_up, e8, envM_up]
      obtain ⟨a, n, k1, k2, k3, k4, k5⟩ := T11.told (q := 2) (by decide) hl
      have hw := (hTA.2.2.2.2.2.2.2 2 f hl).2
      have henv : ∀ op, p_fw 2 op = true → envM μ11 op = (fun op => if op = 268 then heat else if op = 269 then μ 34 43 v else if op = 272 then p_abs x7 else tw_grit A c + tw_grit A e) op := fun op hop => by
        rcases p_fw2 hop with z | z | z | z <;> subst z
        · rw [g]; rfl
        · rw [g]; rfl
        · rw [g, ← hy]; rfl
        · rw [g]; rfl
      have hpa : 0 ≤ p_abs x7 ∧ p_abs x7 ≤ 1000 := by unfold p_abs; split <;> omega
      have h1' := h1
      have h3' := h3
      unfold sm at h1' h3'
      have hb0 : ∀ op, p_fw 2 op = true → -1000000 ≤ envM μ11 op ∧ envM μ11 op ≤ 1000000 := fun op hop => by
        rw [henv op hop]
        rcases p_fw2 hop with z | z | z | z <;> subst z
        · show _ ≤ heat ∧ heat ≤ _; omega
        · show _ ≤ μ 34 43 v ∧ μ 34 43 v ≤ _; omega
        · show _ ≤ p_abs x7 ∧ p_abs x7 ≤ _; omega
        · show _ ≤ tw_grit A c + tw_grit A e ∧ tw_grit A c + tw_grit A e ≤ _; omega
      refine c_reckons (q := 2) (ty := true) T11.1 T11.2.1 (by decide) k1 k2 k3 k5 (by rw [← k4]; exact hw) hb0 (fun μ12 o12 _ => ?_)
      rw [← k4, p_val_congr henv hw]
      have hh := h μ12 (o11.tr o12)
      rw [← e7] at hh
      unfold p_stk at hh
      rw [hl] at hh
      dsimp only at hh
      simp only [l_cmp_eq]
      refine ⟨fun c => ?_, fun c => ?_⟩
      · rw [if_neg (by simpa using c)] at hh; exact hh
      · rw [if_pos (by simpa using c)] at hh; exact hh
    refine ⟨fun c => fin x7 (by unfold p_abs; rw [if_pos c]), fun c => fin _ (by unfold p_abs; rw [if_neg c, w32_le (by omega) (by omega)])⟩
