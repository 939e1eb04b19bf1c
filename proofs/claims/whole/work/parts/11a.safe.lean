/-! ===== rows that are safe; safe ===== -/
def rowAt (A : m_T) (week heat : Int) (rm : Nat) (row : Nat → Int) (p : Nat) : Prop := row p ≠ -1 → p_crk A (row p).toNat heat p week = false ∧ (p + 1 < rm → row (p + 1) ≠ -1 → p_stk A (row p).toNat (row (p + 1)).toNat (p_abs (p_ring A (row p).toNat heat p week - p_ring A (row (p + 1)).toNat heat ((p + 1 : Nat) : Int) week)) heat week = false)
theorem rowOK_iff {A : m_T} {week heat : Int} {rm : Nat} {row : Nat → Int} : rowOK A week heat rm row ↔ ∀ p, p < rm → rowAt A week heat rm row p := Iff.rfl
theorem rowAt.mono {A : m_T} {week heat : Int} {rm r2 : Nat} {row : Nat → Int} {p : Nat} (hr : r2 ≤ rm) (h : rowAt A week heat rm row p) : rowAt A week heat r2 row p := fun q => ⟨(h q).1, fun a b => (h q).2 (by omega) b⟩
theorem rowOK.mono {A : m_T} {week heat : Int} {rm r2 : Nat} {row : Nat → Int} (hr : r2 ≤ rm) (h : rowOK A week heat rm row) : rowOK A week heat r2 row := fun p hp => rowAt.mono hr (h p (by omega))
theorem rowOK.congr {A : m_T} {week heat : Int} {rm : Nat} {row row' : Nat → Int} (e : ∀ p, p < rm → row' p = row p) (h : rowOK A week heat rm row) : rowOK A week heat rm row' := by
  intro p hp
  rw [e p hp]
  intro q
  refine ⟨(h p hp q).1, fun a b => ?_⟩
  rw [e (p + 1) a] at b ⊢
  exact (h p hp q).2 a b
theorem rowSum_congr {A : m_T} {week heat : Int} {row row' : Nat → Int} : ∀ rm, (∀ p, p < rm → row' p = row p) → rowSum A week heat row' rm = rowSum A week heat row rm := by
  intro rm
  induction rm with
  | zero => intro _; rfl
  | succ rm ih => intro e; unfold rowSum; rw [ih (fun p hp => e p (by omega)), e rm (by omega)]
theorem rowSum_in (A : m_T) (week heat : Int) (row : Nat → Int) : ∀ rm, 0 ≤ rowSum A week heat row rm ∧ rowSum A week heat row rm ≤ 99 * (rm : Int) := by
  intro rm
  induction rm with
  | zero => unfold rowSum; omega
  | succ rm ih =>
    unfold rowSum
    have := p_ring_in A (row rm).toNat heat rm week
    split <;> omega
set_option maxRecDepth 20000 in
theorem cm_sumOf {G : m_G} {d b : Nat} {μ : m_M} {A : m_T} (hT : MT μ b A) {rm : Nat} (hrm : rm ≤ 6) {heat : Int} (hh : 0 ≤ heat ∧ heat ≤ 20) (hw : sm (μ 34 43 0)) (hrow : ∀ p, p < rm → μ 34 59 p = -1 ∨ ∃ c : Nat, c < tw_nc A ∧ μ 34 59 p = (c : Int)) {K : Int → m_M → Prop} (h1 : rowOK A (μ 34 43 0) heat rm (μ 34 59) → ∀ μ1, offM (m_up μ 34 59 rm (-1)) μ1 → K (rowSum A (μ 34 43 0) heat (μ 34 59) rm) μ1) (h0 : ¬ rowOK A (μ 34 43 0) heat rm (μ 34 59) → ∀ μ1, offM (m_up μ 34 59 rm (-1)) μ1 → K (-1) μ1) : c_i G (d + 6) YX12_sumOf [vR 34 0, vI (rm : Int), vI heat] μ K := by
  refine EX12_sumOf (fun X C R => ⟨⟨by omega, by omega⟩, fun μ2 e2 => ?_⟩)
  rw [Int.toNat_natCast] at e2
  obtain ⟨week, hweek⟩ : ∃ week, week = μ 34 43 0 := ⟨_, rfl⟩
  obtain ⟨row, hro⟩ : ∃ row : Nat → Int, row = μ 34 59 := ⟨_, rfl⟩
  rw [← hweek, ← hro] at h1 h0
  rw [← hweek] at hw
  rw [← hro] at hrow
  have L : ∀ (r p : Nat) (μ1 : m_M), p + r = rm → offM μ2 μ1 → (∀ q, q < p → rowAt A week heat rm row q) → mW G X YX12_sumOf μ1 12 [some (vR 34 0), some (vI (rm : Int)), some (vI heat), some (vI (rowSum A week heat row p)), some (vI (p : Int))] [] := by
    intro r
    induction r with
    | zero =>
      intro p μ1 hp o1 hq
      refine VX12_sumOf_12 C R ⟨fun _ => ?_, fun q => absurd (by omega) q⟩
      rw [show p = rm by omega] at hq ⊢
      exact h1 hq μ1 (by rw [← e2]; exact o1)
    | succ r ih =>
      intro p μ1 hp o1 hq
      have g59 : ∀ (μ3 : m_M), offM μ2 μ3 → ∀ i, μ3 34 59 i = if i = rm then -1 else row i := fun μ3 o3 i => by
        rw [o3 34 59 i (by omega), e2]
        by_cases z : i = rm
        · rw [if_pos z, z, m_up_at]
        · rw [if_neg z, m_up_ne _ _ (by omega), hro]
      have gT : ∀ (μ3 : m_M), offM μ2 μ3 → MT μ3 b A ∧ μ3 34 43 0 = week := fun μ3 o3 => by
        refine ⟨(hT.mv (fun x c hx => by rw [e2, m_up_ne _ _ (by omega)])  : MT μ2 b A).off o3, ?_⟩
        rw [o3 34 43 0 (by omega), e2, m_up_ne _ _ (by omega), hweek]
      have ep : w32 ((p : Int) + 1) = ((p + 1 : Nat) : Int) := w32_s (by omega)
      have hin := rowSum_in A week heat row p
      have gp : ∀ μ3, offM μ2 μ3 → μ3 34 59 p = row p := fun μ3 o3 => by rw [g59 μ3 o3, if_neg (by omega)]
      have hS : rowSum A week heat row (p + 1) = rowSum A week heat row p + (if row p = -1 then 0 else p_ring A (row p).toNat heat p week) := rfl
      refine VX12_sumOf_12 C R ⟨fun q => absurd q (by omega), fun _ => ⟨⟨by omega, by omega⟩, ?_, ?_⟩⟩
      · rw [Int.toNat_natCast, gp μ1 o1]
        intro hne
        refine ⟨⟨by omega, by omega⟩, ?_⟩
        obtain ⟨c, hc, ec⟩ : ∃ c : Nat, c < tw_nc A ∧ row p = (c : Int) := (hrow p (by omega)).resolve_left hne
        have hri := p_ring_in A c heat p week
        rw [ec]
        obtain ⟨hT1, hw1⟩ := gT μ1 o1
        refine cm_crk (v := 0) hT1 (by decide) hc (by unfold sm; omega) (by unfold sm; omega) (by rw [hw1]; exact hw) (fun μ3 o3 => ?_)
        rw [hw1]
        have o13 := o1.tr o3
        obtain ⟨hT3, hw3⟩ := gT μ3 o13
        rw [ep, Int.toNat_natCast, gp μ3 o13, g59 μ3 o13]
        by_cases hcr : p_crk A c heat p week = true
        · rw [if_pos hcr]
          refine ⟨z1, fun _ => h0 (fun z => ?_) μ3 (by rw [← e2]; exact o13)⟩
          have := (z p (by omega) hne).1
          rw [ec, Int.toNat_natCast, hcr] at this
          exact absurd this (by decide)
        · rw [if_neg hcr]
          have hcr' : p_crk A c heat p week = false := by revert hcr; cases p_crk A c heat p week <;> simp
          refine ⟨fun _ => ⟨⟨by omega, by omega⟩, fun q => ⟨⟨by omega, by omega⟩, ?_⟩, fun q => ⟨⟨by omega, by omega⟩, ⟨by omega, by omega⟩, ?_⟩⟩, z0⟩
          · rw [ec]
            refine cm_ring (v := 0) hT3 (by decide) hc (by unfold sm; omega) (by unfold sm; omega) (by rw [hw3]; exact hw) (fun μ4 o4 x5 e5 x6 e6 => ?_)
            rw [hw3, w32_le (by omega) (by omega)] at e5
            subst e5; subst e6
            have := ih (p + 1) μ4 (by omega) (o13.tr o4) (fun i hi => ?_)
            · rw [hS, if_neg hne, ec, Int.toNat_natCast] at this
              exact this
            · by_cases z : i = p
              · subst z
                intro _
                rw [ec, Int.toNat_natCast]
                refine ⟨hcr', fun a b => ?_⟩
                rw [if_neg (by omega)] at q
                exact absurd q b
              · exact hq i (by omega)
          · have hlt : p + 1 < rm := by
              by_cases z : p + 1 = rm
              · rw [if_pos z] at q; exact absurd rfl q
              · omega
            rw [if_neg (by omega)] at q ⊢
            obtain ⟨e, he, ee⟩ : ∃ e : Nat, e < tw_nc A ∧ row (p + 1) = (e : Int) := (hrow (p + 1) hlt).resolve_left q
            rw [ec, ee]
            refine cm_stk (v := 0) hT3 (by decide) hc he (by unfold sm; omega) ⟨by omega, by omega⟩ (by rw [hw3]; exact hw) (fun μ4 o4 => ?_)
            rw [hw3]
            have o14 := o13.tr o4
            obtain ⟨hT4, hw4⟩ := gT μ4 o14
            have ecast : (p : Int) + 1 = ((p + 1 : Nat) : Int) := by omega
            rw [ecast, gp μ4 o14, ec]
            by_cases hst : p_stk A c e (p_abs (p_ring A c heat p week - p_ring A e heat ((p + 1 : Nat) : Int) week)) heat week = true
            · rw [if_pos hst]
              refine ⟨z1, fun _ => h0 (fun z => ?_) μ4 (by rw [← e2]; exact o14)⟩
              have := (z p (by omega) hne).2 hlt q
              rw [ec, ee, Int.toNat_natCast, Int.toNat_natCast, hst] at this
              exact absurd this (by decide)
            · rw [if_neg hst]
              have hst' : p_stk A c e (p_abs (p_ring A c heat p week - p_ring A e heat ((p + 1 : Nat) : Int) week)) heat week = false := by revert hst; cases p_stk A c e (p_abs (p_ring A c heat p week - p_ring A e heat ((p + 1 : Nat) : Int) week)) heat week <;> simp
              refine ⟨fun _ => ⟨⟨by omega, by omega⟩, ?_⟩, z0⟩
              refine cm_ring (v := 0) hT4 (by decide) hc (by unfold sm; omega) (by unfold sm; omega) (by rw [hw4]; exact hw) (fun μ5 o5 x5 e5 x6 e6 => ?_)
              rw [hw4, w32_le (by omega) (by omega)] at e5
              subst e5; subst e6
              have := ih (p + 1) μ5 (by omega) (o14.tr o5) (fun i hi => ?_)
              · rw [hS, if_neg hne, ec, Int.toNat_natCast] at this
                exact this
              · by_cases z : i = p
                · subst z
                  intro _
                  rw [ec, Int.toNat_natCast]
                  refine ⟨hcr', fun a b => ?_⟩
                  rw [ee, Int.toNat_natCast]
                  exact hst'
                · exact hq i (by omega)
      · rw [Int.toNat_natCast, gp μ1 o1]
        intro hm x13 e13
        rw [ep] at e13
        subst e13
        have := ih (p + 1) μ1 (by omega) o1 (fun i hi => ?_)
        · rw [hS, if_pos hm, Int.add_zero] at this
          exact this
        · by_cases z : i = p
          · subst z; intro q; exact absurd hm q
          · exact hq i (by omega)
  exact L rm 0 μ2 (by omega) (offM.rf μ2) (fun q hq => by omega)
set_option maxRecDepth 20000 in
theorem c_isSafe {G : m_G} {d t kn : Nat} {μ : m_M} {A : m_T} (hT : CT μ t A) (hB : BI A (μ 10)) (hk : kn < tw_nk A) {heat : Int} (hh : 0 ≤ heat ∧ heat ≤ 20) {K : Int → m_M → Prop} (h1 : rowOK A (μ 10 0 0) heat (tw_room A kn).toNat (fun p => b_who (μ 10) kn p) → ∀ μ1, off5 μ μ1 → K 1 μ1) (h0 : ¬ rowOK A (μ 10 0 0) heat (tw_room A kn).toNat (fun p => b_who (μ 10) kn p) → ∀ μ1, off5 μ μ1 → K 0 μ1) : c_i G (d + 7) YX4_isSafe [vR 4 0, vR 10 0, vI (kn : Int), vI heat] μ K := by
  have hTA := hT.2.2.2.1
  have hk3 : kn < 3 := Nat.lt_of_lt_of_le hk hTA.2.1
  have hro := hTA.2.2.2.1 kn hk
  obtain ⟨rm, hrm⟩ : ∃ rm : Nat, tw_room A kn = (rm : Int) := ⟨(tw_room A kn).toNat, by omega⟩
  rw [hrm, Int.toNat_natCast] at h1 h0
  rw [hrm] at hro
  obtain ⟨week, hweek⟩ : ∃ week, week = μ 10 0 0 := ⟨_, rfl⟩
  have hwk : sm week := by rw [hweek]; have := hB.1; unfold sm; omega
  obtain ⟨row, hrw⟩ : ∃ row : Nat → Int, ∀ p, row p = b_who (μ 10) kn p := ⟨_, fun _ => rfl⟩
  have hrf : (fun p : Nat => b_who (μ 10) kn p) = row := by funext p; exact (hrw p).symm
  rw [← hweek, hrf] at h1 h0
  have hrow : ∀ p, row p = -1 ∨ ∃ c : Nat, c < tw_nc A ∧ row p = (c : Int) := fun p => by
    rw [hrw]
    rcases b_who_spec (μ 10) kn p with ⟨q, -⟩ | ⟨c, q, q2, q3, -⟩
    · exact Or.inl q
    · exact Or.inr ⟨c, hB.nc c q2 q3, q⟩
  refine EX4_isSafe (by decide) (fun X C R => ?_)
  have L : ∀ (r p : Nat) (μ1 : m_M) (l lt : Int), p + r = rm → off5 μ μ1 → rowOK A week heat p row → (p = 0 → l = -1) → (∀ j, p = j + 1 → l = row j ∧ (l ≠ -1 → lt = p_ring A l.toNat heat j week)) → mW G X YX4_isSafe μ1 9 [some (vR 4 0), some (vR 10 0), some (vI (kn : Int)), some (vI heat), some (vI l), some (vI lt), some (vI (p : Int)), none, none] [] := by
    intro r
    induction r with
    | zero =>
      intro p μ1 l lt hp o1 hq hl0 hl
      have hT1 := hT.off o1
      refine VX4_isSafe_9 C R (by decide) ⟨t, hT1.2.1, hT1.1, ⟨by omega, by omega⟩, fun _ => ?_, fun q => absurd ?_ q⟩
      · rw [show p = rm by omega] at hq; exact h1 hq μ1 o1
      · rw [Int.toNat_natCast, hT1.room hk, hrm]; omega
    | succ r ih =>
      intro p μ1 l lt hp o1 hq hl0 hl
      have hT1 := hT.off o1
      have ep : w32 ((p : Int) + 1) = ((p + 1 : Nat) : Int) := w32_s (by omega)
      have h10 : ∀ μ3, off5 μ μ3 → μ3 10 = μ 10 := fun μ3 o3 => by funext x y; exact o3 10 x y (by decide)
      refine VX4_isSafe_9 C R (by decide) ⟨t, hT1.2.1, hT1.1, ⟨by omega, by omega⟩, fun q => absurd q ?_, fun _ => c_who (by decide) ?_⟩
      · rw [Int.toNat_natCast, hT1.room hk, hrm]; omega
      · rw [h10 μ1 o1, ← hrw p, ep]
        refine ⟨fun q x6 e6 => ?_, fun hne => ?_⟩
        · subst e6
          refine ih (p + 1) μ1 _ lt (by omega) o1 (fun i hi hi2 => ?_) (fun z => by omega) (fun j hj => ?_)
          · by_cases z : i = p
            · subst z; exact absurd q hi2
            · refine ⟨(hq i (by omega) hi2).1, fun a b => ?_⟩
              by_cases z2 : i + 1 = p
              · rw [z2] at b; exact absurd q b
              · exact (hq i (by omega) hi2).2 (by omega) b
          · rw [show j = p by omega]; exact ⟨rfl, fun z => absurd q z⟩
        · obtain ⟨c, hc, ec⟩ := (hrow p).resolve_left hne
          rw [ec, ← hweek]
          have hri := p_ring_in A c heat p week
          refine c_temperOf hT1 hc (by unfold sm; omega) (by omega) (by unfold sm; omega) hwk (fun μ3 o3 => ?_)
          have o13 := o1.tr o3
          rw [h10 μ3 o13, ← hweek]
          refine c_isCracked (hT.off o13) hc (by unfold sm; omega) (by unfold sm; omega) hwk rfl (fun μ4 o4 => ?_)
          have o14 := o13.tr o4
          rw [h10 μ4 o14, ← hweek]
          by_cases hcr : p_crk A c heat p week = true
          · rw [if_pos hcr]
            refine ⟨z1, fun _ => h0 (fun z => ?_) μ4 o14⟩
            have := (z p (by omega) hne).1
            rw [ec, Int.toNat_natCast, hcr] at this
            exact absurd this (by decide)
          · rw [if_neg hcr]
            have hcr' : p_crk A c heat p week = false := by revert hcr; cases p_crk A c heat p week <;> simp
            have next : ∀ μ5, off5 μ μ5 → (∀ j, p = j + 1 → row j ≠ -1 → p_stk A (row j).toNat c (p_abs (p_ring A (row j).toNat heat j week - p_ring A c heat p week)) heat week = false) → mW G X YX4_isSafe μ5 9 [some (vR 4 0), some (vR 10 0), some (vI (kn : Int)), some (vI heat), some (vI (c : Int)), some (vI (p_ring A c heat p week)), some (vI ((p + 1 : Nat) : Int)), none, none] [] := fun μ5 o5 hs => by
              refine ih (p + 1) μ5 _ _ (by omega) o5 (fun i hi hi2 => ?_) (fun z => by omega) (fun j hj => ?_)
              · by_cases z : i = p
                · subst z
                  rw [ec, Int.toNat_natCast]
                  exact ⟨hcr', fun a => absurd a (by omega)⟩
                · refine ⟨(hq i (by omega) hi2).1, fun a b => ?_⟩
                  by_cases z2 : i + 1 = p
                  · have := hs i z2.symm hi2
                    rw [z2, ec, Int.toNat_natCast]
                    exact this
                  · exact (hq i (by omega) hi2).2 (by omega) b
              · have : j = p := by omega
                subst this
                rw [Int.toNat_natCast]
                exact ⟨ec.symm, fun _ => rfl⟩
            refine ⟨fun _ => ⟨fun q x14 e14 => ?_, fun q => ?_⟩, z0⟩
            · subst e14
              refine next μ4 o14 (fun j hj hj2 => ?_)
              exact absurd ((hl j hj).1.symm.trans q) hj2
            · obtain ⟨j, hj⟩ : ∃ j, p = j + 1 := ⟨p - 1, by
                have : p ≠ 0 := fun z => q (hl0 z)
                omega⟩
              obtain ⟨hl1, hl2⟩ := hl j hj
              have hl2 := hl2 q
              rw [hl1] at hl2 q ⊢
              obtain ⟨e, he, ee⟩ := (hrow j).resolve_left q
              rw [ee, Int.toNat_natCast] at hl2
              have hrj := p_ring_in A e heat j week
              rw [ee, hl2, w32_le (by omega) (by omega)]
              refine c_isStuck (hT.off o14) he hc (by unfold sm; omega) (by unfold sm; omega) hwk (fun μ5 o5 => ?_)
              have o15 := o14.tr o5
              by_cases hst : p_stk A e c (p_abs (p_ring A e heat j week - p_ring A c heat p week)) heat week = true
              · rw [if_pos hst]
                refine ⟨z1, fun _ => h0 (fun z => ?_) μ5 o15⟩
                have := (z j (by omega) q).2 (by omega) (by rw [← hj]; exact hne)
                rw [← hj, ec, ee, Int.toNat_natCast, Int.toNat_natCast, hst] at this
                exact absurd this (by decide)
              · rw [if_neg hst]
                have hst' : p_stk A e c (p_abs (p_ring A e heat j week - p_ring A c heat p week)) heat week = false := by revert hst; cases p_stk A e c (p_abs (p_ring A e heat j week - p_ring A c heat p week)) heat week <;> simp
                refine ⟨fun _ x19 e19 => ?_, z0⟩
                subst e19
                refine next μ5 o15 (fun i hi hi2 => ?_)
                have : i = j := by omega
                subst this
                rw [ee, Int.toNat_natCast]
                exact hst'
  exact L rm 0 μ (-1) 0 (by omega) (off5.rf μ) (fun p hp => by omega) (fun _ => rfl) (fun j hj => by omega)
/-- the greatest number below n at which p holds; -1 without -/
def m_dn (p : Nat → Bool) : Nat → Int
  | 0 => -1
  | n + 1 => if p n then (n : Int) else m_dn p n
noncomputable def bl (P : Prop) : Bool := @decide P (Classical.propDecidable P)
theorem bl_t {P : Prop} (h : P) : bl P = true := by unfold bl; exact @decide_eq_true P (Classical.propDecidable P) h
theorem bl_f {P : Prop} (h : ¬ P) : bl P = false := by unfold bl; exact @decide_eq_false P (Classical.propDecidable P) h
theorem fr10 {μ μ1 : m_M} (h : ofS μ μ1) : μ1 10 = μ 10 := fr_obj h (by decide) (by decide) (by decide) (by decide)
section SF
variable {G : m_G} {a1 a2 a3 a4 : Int}
set_option maxRecDepth 20000 in
theorem mo_safe {d : Nat} {μ : m_M} {A : m_T} {t s b kn : Nat} (h : RA μ A t s b) (hk : kn < tw_nk A) (hn : b_cnt (μ 10) kn ≠ 0) {Z : Int} (hZ : m_dn (fun n => bl (rowOK A (μ 10 0 0) (n : Int) (tw_room A kn).toNat (fun p => b_who (μ 10) kn p))) 21 = Z) : c_i G (d + 100) YX12_safe [vR 34 0, vI (kn : Int)] μ (fun r2 μ2 => r2 = Z ∧ RR μ2) := by
  have hM := h.1.2.1
  have hb := hM.2.1
  have hA := h.1.1.2.2.2.1
  have hk3 : kn < 3 := Nat.lt_of_lt_of_le hk hA.2.1
  have hro := hA.2.2.2.1 kn hk
  obtain ⟨rm, hrm⟩ : ∃ rm : Nat, tw_room A kn = (rm : Int) := ⟨(tw_room A kn).toNat, by omega⟩
  rw [hrm] at hro
  rw [hrm, Int.toNat_natCast] at hZ
  obtain ⟨row, hrw⟩ : ∃ row : Nat → Int, ∀ p, row p = b_who (μ 10) kn p := ⟨_, fun _ => rfl⟩
  have hrf : (fun p : Nat => b_who (μ 10) kn p) = row := by funext p; exact (hrw p).symm
  rw [hrf] at hZ
  have hrow : ∀ p, row p = -1 ∨ ∃ c : Nat, c < tw_nc A ∧ row p = (c : Int) := fun p => by
    rw [hrw]
    rcases b_who_spec (μ 10) kn p with ⟨q, -⟩ | ⟨c, q, q2, q3, -⟩
    · exact Or.inl q
    · exact Or.inr ⟨c, h.2.1.1.nc c q2 q3, q⟩
  have ew : w32 ((w32 (3 * (μ 34 0 13))) + (kn : Int)) = ((3 * b + kn : Nat) : Int) := by rw [hM.1]; exact w_3b (by omega) hk3
  refine EX12_safe (fun X C R => mo_kiln_y h ⟨by omega, by omega⟩ ⟨z1, fun _ => cm_full (v := 0) hM (by decide) ?_⟩)
  rw [h.2.1.cnt hA kn, ew, Int.toNat_natCast, hM.room hk, hrm]
  refine ⟨fun _ => ⟨⟨by omega, by omega⟩, fun x5 e5 => ?_⟩, fun q => absurd (by omega) hn⟩
  subst e5
  have L2 : ∀ (n : Nat) (μ1 : m_M), n ≤ 21 → ofS μ μ1 → (∀ j, j < rm → μ1 34 59 j = row j) → m_dn (fun n => bl (rowOK A (μ 10 0 0) (n : Int) rm row)) n = Z → mW G X YX12_safe μ1 62 [some (vR 34 0), some (vI (kn : Int)), some (vI (rm : Int)), some (vI ((n : Int) - 1))] [] := by
    intro n
    induction n with
    | zero =>
      intro μ1 _ o1 _ e
      exact VX12_safe_62 C R ⟨fun _ => ⟨e, A, t, s, b, h.fS o1⟩, fun q => absurd (by omega) q⟩
    | succ n ih =>
      intro μ1 hn21 o1 hr e
      have h1 := h.fS o1
      have w1 : μ1 34 43 0 = μ 10 0 0 := by rw [h1.2.1.w.1, fr10 o1]
      have en : ((n + 1 : Nat) : Int) - 1 = (n : Int) := by omega
      rw [en]
      unfold m_dn at e
      have O : ∀ μ3, offM (m_up μ1 34 59 rm (-1)) μ3 → ofS μ μ3 := fun μ3 o3 => (o1.tr (ofS.up (by unfold scr; omega))).tr o3.S
      have P : ∀ μ3, offM (m_up μ1 34 59 rm (-1)) μ3 → ∀ j, j < rm → μ3 34 59 j = row j := fun μ3 o3 j hj => by rw [o3 34 59 j (by omega), m_up_ne _ _ (by omega)]; exact hr j hj
      refine VX12_safe_62 C R ⟨fun q => absurd q (by omega), fun _ => cm_sumOf h1.1.2.1 (by omega) ⟨by omega, by omega⟩ (by rw [h1.2.1.w.1]; exact h1.2.1.sw) (fun p hp => by rw [hr p hp]; exact hrow p) (fun hok μ3 o3 => ⟨fun q => ?_, fun _ => ?_⟩) (fun hok μ3 o3 => ⟨fun _ x3 e3 => ?_, fun q => absurd rfl q⟩)⟩
      · have := rowSum_in A (μ1 34 43 0) (n : Int) (μ1 34 59) rm
        omega
      · rw [w1] at hok
        rw [if_pos (bl_t (hok.congr (fun p hp => (hr p hp).symm)))] at e
        exact ⟨e, A, t, s, b, h.fS (O μ3 o3)⟩
      · rw [w1] at hok
        rw [bl_f (fun z => hok (z.congr (fun p hp => hr p hp)))] at e
        rw [w32_le (by omega) (by omega)] at e3
        subst e3
        exact ih μ3 (by omega) (O μ3 o3) (P μ3 o3) e
  have L1 : ∀ (r i : Nat) (μ1 : m_M), i + r = rm → ofS μ μ1 → (∀ j, j < i → μ1 34 59 j = row j) → mW G X YX12_safe μ1 35 [some (vR 34 0), some (vI (kn : Int)), some (vI (rm : Int)), some (vI (i : Int))] [] := by
    intro r
    induction r with
    | zero =>
      intro i μ1 hi o1 hr
      refine VX12_safe_35 C R ⟨fun _ => ?_, fun q => absurd (by omega) q⟩
      exact L2 21 μ1 (by omega) o1 (fun j hj => hr j (by omega)) hZ
    | succ r ih =>
      intro i μ1 hi o1 hr
      have h1 := h.fS o1
      refine VX12_safe_35 C R ⟨fun q => absurd q (by omega), fun _ => cm_inPlace (v := 0) h1.1.2.1 (by decide) ?_⟩
      rw [h1.2.1.who hA kn, fr10 o1, ← hrw]
      refine ⟨⟨by omega, by omega⟩, fun μ4 e4 x5 e5 => ?_⟩
      rw [w32_s (by omega)] at e5
      subst e5
      rw [Int.toNat_natCast] at e4
      subst e4
      refine ih (i + 1) _ (by omega) (o1.tr (ofS.up (by unfold scr; omega))) (fun j hj => ?_)
      by_cases z : j = i
      · subst z; rw [m_up_at]
      · rw [m_up_ne _ _ (by omega)]; exact hr j (by omega)
  exact L1 rm 0 μ (by omega) (ofS.rf μ) (fun j hj => by omega)
set_option maxRecDepth 20000 in
theorem S_safe : SIM G YX11_safe YX12_safe [vI a1] := by
  intro d μ ⟨A, t, s, b, h⟩
  have hR : RR μ := ⟨A, t, s, b, h⟩
  have hM := h.1.2.1
  have hA := h.1.1.2.2.2.1
  by_cases hy : 0 ≤ a1 ∧ a1 < (tw_nk A : Int)
  · obtain ⟨kn, rfl⟩ : ∃ kn : Nat, a1 = (kn : Int) := ⟨a1.toNat, by omega⟩
    have hk : kn < tw_nk A := by omega
    by_cases hc : b_cnt (μ 10) kn = 0
    · refine EX11_safe (fun X C R => cl_kiln_y h hy ⟨z1, fun _ => c_countIn (by decide) ⟨fun q => absurd (by omega) q, fun _ => ?_⟩⟩)
      refine EX12_safe (fun X C R => mo_kiln_y h hy ⟨z1, fun _ => cm_full (v := 0) hM (by decide) ?_⟩)
      rw [h.2.1.cnt hA kn]
      exact ⟨fun q => absurd (by omega) q, fun _ => ⟨rfl, hR⟩⟩
    · refine EX11_safe (fun X C R => cl_kiln_y h hy ⟨z1, fun _ => c_countIn (by decide) ⟨fun _ => ?_, fun q => absurd (by omega) hc⟩⟩)
      obtain ⟨Z, hZ⟩ : ∃ Z, m_dn (fun n => bl (rowOK A (μ 10 0 0) (n : Int) (tw_room A kn).toNat (fun p => b_who (μ 10) kn p))) 21 = Z := ⟨_, rfl⟩
      have fin : ∀ μ1, off5 μ μ1 → c_i G (d + 100) YX12_safe [vR 34 0, vI (kn : Int)] μ1 (fun r2 μ2 => r2 = Z ∧ RR μ2) := fun μ1 o1 => by
        have e10 : μ1 10 = μ 10 := fr10 o1.S
        exact mo_safe (h.fS o1.S) hk (by rw [e10]; exact hc) (by rw [e10]; exact hZ)
      have L : ∀ (n : Nat) (μ1 : m_M), n ≤ 21 → off5 μ μ1 → m_dn (fun n => bl (rowOK A (μ 10 0 0) (n : Int) (tw_room A kn).toNat (fun p => b_who (μ 10) kn p))) n = Z → mW G X YX11_safe μ1 24 [some (vR 1 0), some (vI (kn : Int)), some (vI ((n : Int) - 1))] [] := by
        intro n
        induction n with
        | zero =>
          intro μ1 _ o1 e
          refine VX11_safe_24 C R ⟨fun _ => ?_, fun q => absurd (by omega) q⟩
          have := fin μ1 o1
          rw [← e] at this
          exact this
        | succ n ih =>
          intro μ1 hn21 o1 e
          have h1 := h.fS o1.S
          have e10 : μ1 10 = μ 10 := fr10 o1.S
          rw [show ((n + 1 : Nat) : Int) - 1 = (n : Int) by omega]
          unfold m_dn at e
          refine VX11_safe_24 C R ⟨fun q => absurd q (by omega), fun _ => c_isSafe h1.1.1 h1.2.1.1 hk ⟨by omega, by omega⟩ (fun hok μ3 o3 => ⟨z1, fun _ => ?_⟩) (fun hok μ3 o3 => ⟨fun _ x3 e3 => ?_, z0⟩)⟩
          · rw [e10] at hok
            rw [if_pos (bl_t hok)] at e
            have := fin μ3 (o1.tr o3)
            rw [← e] at this
            exact this
          · rw [e10] at hok
            rw [bl_f hok] at e
            rw [w32_le (by omega) (by omega)] at e3
            subst e3
            exact ih μ3 (by omega) (o1.tr o3) e
      exact L 21 μ (by omega) (off5.rf μ) hZ
  · exact EX11_safe (fun X C R => cl_kiln_n h hy ⟨fun _ => EX12_safe (fun X C R => mo_kiln_n h hy ⟨fun _ => ⟨rfl, hR⟩, z0⟩), z0⟩)
end SF
