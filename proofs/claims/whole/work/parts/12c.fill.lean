/-! ===== the class looks for the best: rows are filled ===== -/
def SS (A : m_T) (B : Nat → Nat → Int) (kn rm : Nat) (w h : Int) (row : Nat → Int) (p : Nat) (row' : Nat → Int) : Prop := isArr B kn rm row' ∧ rowOK A w h rm row' ∧ ∀ q, q < p → row' q = row q
def PFX (A : m_T) (B : Nat → Nat → Int) (kn : Nat) (w h : Int) (row : Nat → Int) (p : Nat) : Prop := (∀ q, q < p → row q = -1 ∨ ∃ c : Nat, c < 8 ∧ row q = (c : Int) ∧ B 3 c = (kn : Int)) ∧ (∀ q q', q < p → q' < p → row q = row q' → row q ≠ -1 → q = q') ∧ rowOK A w h p row
def XX (μ : m_M) : Int × Int × Int × (Nat → Int) := (μ 7 0 0, μ 7 0 1, μ 7 0 8, μ 7 3)
theorem ws_in {f : Nat → Bool} {m : Nat → Int} : ∀ n, (∀ j, j < n → f j = true → 0 ≤ m j ∧ m j ≤ 99) → 0 ≤ ws f m n ∧ ws f m n ≤ 99 * (n : Int) := by
  intro n
  induction n with
  | zero => intro _; unfold ws; omega
  | succ n ih =>
    intro h
    have := ih (fun j hj hf => h j (by omega) hf)
    unfold ws
    by_cases q : f n = true
    · have := h n (by omega) q
      rw [if_pos q]; omega
    · rw [if_neg q]; omega
section FI
variable {G : m_G} {A : m_T} {B : Nat → Nat → Int} {t kn rm : Nat} {w h : Int}
theorem PFX.congr {row row' : Nat → Int} {p : Nat} (e : ∀ q, q < p → row' q = row q) (hp : PFX A B kn w h row p) : PFX A B kn w h row' p :=
  ⟨fun q hq => by rw [e q hq]; exact hp.1 q hq, fun q q' hq hq' => by rw [e q hq, e q' hq']; exact hp.2.1 q q' hq hq', hp.2.2.congr e⟩
theorem PFX.none {row : Nat → Int} {p : Nat} (hp : PFX A B kn w h row p) (h0 : row p = -1) : PFX A B kn w h row (p + 1) := by
  obtain ⟨a, b, c⟩ := hp
  refine ⟨fun q hq => ?_, fun q q' hq hq' e ne => ?_, fun q hq ne => ?_⟩
  · by_cases y : q = p
    · rw [y]; exact Or.inl h0
    · exact a q (by omega)
  · by_cases y : q = p
    · rw [y] at ne; exact absurd h0 ne
    · by_cases y' : q' = p
      · rw [e, y'] at ne; exact absurd h0 ne
      · exact b q q' (by omega) (by omega) e ne
  · by_cases y : q = p
    · rw [y] at ne; exact absurd h0 ne
    · refine ⟨(c q (by omega) ne).1, fun a1 b1 => ?_⟩
      by_cases y' : q + 1 = p
      · rw [y'] at b1; exact absurd h0 b1
      · exact (c q (by omega) ne).2 (by omega) b1
theorem PFX.child {row : Nat → Int} {p c : Nat} (hp : PFX A B kn w h row p) (hc : c < 8) (hk : B 3 c = (kn : Int)) (hr : row p = (c : Int)) (hw : ∀ q, q < p → row q ≠ (c : Int)) (hcr : p_crk A c h p w = false) (hst : stL A w h row c p = false) : PFX A B kn w h row (p + 1) := by
  obtain ⟨a, b, ok⟩ := hp
  refine ⟨fun q hq => ?_, fun q q' hq hq' e ne => ?_, fun q hq ne => ?_⟩
  · by_cases y : q = p
    · rw [y]; exact Or.inr ⟨c, hc, hr, hk⟩
    · exact a q (by omega)
  · by_cases y : q = p
    · by_cases y' : q' = p
      · omega
      · rw [y, hr] at e; exact absurd e.symm (hw q' (by omega))
    · by_cases y' : q' = p
      · rw [y', hr] at e; exact absurd e (hw q (by omega))
      · exact b q q' (by omega) (by omega) e ne
  · by_cases y : q = p
    · subst y
      rw [hr, Int.toNat_natCast]
      exact ⟨hcr, fun a1 => absurd a1 (by omega)⟩
    · have okq := ok q (by omega) ne
      refine ⟨okq.1, fun a1 b1 => ?_⟩
      by_cases y' : q + 1 = p
      · rw [y', hr, Int.toNat_natCast]
        unfold stL at hst
        have ep : p - 1 = q := by omega
        rw [ep] at hst
        have h1 : decide (p ≠ 0) = true := by simp; omega
        have h2 : (row q != -1) = true := by simp [ne]
        rw [h1, h2] at hst
        simp only [Bool.true_and] at hst
        rw [TV_eq okq.1, TV_eq hcr] at hst
        exact hst
      · exact okq.2 (by omega) b1
theorem c_ff (hB : BI A B) (hrm : rm ≤ 6) (hw : sm w) (hh : 0 ≤ h ∧ h ≤ 20) : ∀ (r p : Nat), p + r = rm → ∀ (d : Nat) (μ : m_M) (wt hope : Int) (K : m_M → Prop), SI A B t kn rm w h μ → PFX A B kn w h (μ 7 10) p → in8 wt → (∀ c, c < 8 → tb wt c = wf B kn (μ 7 10) p c) → m_cnt (wf B kn (μ 7 10) p) 0 8 ≤ rm - p → hope = rowSum A w h (μ 7 10) p + ws (wf B kn (μ 7 10) p) (fun c => mxv A w h c rm) 8 → (∀ μ1, FRs μ μ1 → SI A B t kn rm w h μ1 → (∀ q, q < p → μ1 7 10 q = μ 7 10 q) → PO A w h rm (SS A B kn rm w h (μ 7 10) p) (XX μ) (XX μ1) → K μ1) → c_v G (d + r + 9) YX1_fillFrom [vR 7 0, vI (p : Int), vI wt, vI hope] μ K := by
  intro r
  induction r with
  | zero =>
    intro p hp d μ wt hope K hS hpf i8 htb hcn hho k
    have ep : p = rm := by omega
    subst ep
    -- nobody waits
    have now : ∀ c, c < 8 → wf B kn (μ 7 10) p c = false := fun c hc => by
      cases y : wf B kn (μ 7 10) p c with
      | false => rfl
      | true =>
        have := (m_cnt_lt (p := fun _ => false) (q := wf B kn (μ 7 10) p) 8 0 (fun j _ _ z => by simp at z)).2 ⟨c, by omega, by omega, rfl, y⟩
        omega
    have hws : ws (wf B kn (μ 7 10) p) (fun c => mxv A w h c p) 8 = 0 := ws_0 8 now
    rw [hws, Int.add_zero] at hho
    have harr : isArr B kn p (μ 7 10) := by
      refine ⟨hpf.1, fun c hc hk => ?_, hpf.2.1⟩
      have := now c hc
      apply Classical.byContradiction
      intro hn
      have : wf B kn (μ 7 10) p c = true := bl_t ⟨hk, fun q hq z => hn ⟨q, hq, z⟩⟩
      rw [now c hc] at this
      exact absurd this (by decide)
    have hself : SS A B kn p w h (μ 7 10) p (μ 7 10) := ⟨harr, hpf.2.2, fun _ _ => rfl⟩
    have hsum : ∀ row', SS A B kn p w h (μ 7 10) p row' → rowSum A w h row' p = hope := fun row' hr => by rw [hho]; exact rowSum_congr p hr.2.2
    refine EX1_fillFrom (fun X C R => ⟨fun q => absurd q (by rw [hS.2.1.1]; omega), fun _ => EX1_keepRow ⟨fun q => k μ (FRs.rf μ) hS (fun _ _ => rfl) (PO.none (fun row' hr => ?_)), fun q μ1 e1 μ2 e2 μ3 e3 => ?_⟩⟩)
    · rw [hsum row' hr]; exact q
    · have v6 : μ3 7 0 6 = (p : Int) := by rw [e3, m_up_ne _ _ (by omega), e2, m_up_ne _ _ (by omega), e1, m_up_ne _ _ (by omega)]; exact hS.2.1.1
      have v7 : μ2 7 0 7 = h := by rw [e2, m_up_ne _ _ (by omega), e1, m_up_ne _ _ (by omega)]; exact hS.2.1.2.1
      rw [v7] at e3
      rw [v6, Int.toNat_natCast]
      refine ⟨⟨by omega, by omega, by omega, by omega, by omega⟩, fun μ4 e4 => ?_⟩
      have f3 : ∀ x y z, ¬ (x = 7 ∧ y = 0 ∧ (z = 0 ∨ z = 1 ∨ z = 8)) → μ3 x y z = μ x y z := fun x y z q => by rw [e3, m_up_ne _ _ (by omega), e2, m_up_ne _ _ (by omega), e1, m_up_ne _ _ (by omega)]
      have f4 : ∀ x y z, ¬ (x = 7 ∧ y = 3) → μ4 x y z = μ3 x y z := fun x y z q => by rw [e4, cp_ne q]
      have F : FRs μ μ4 := fun x y z a b => by rw [f4 x y z (by omega), f3 x y z (by omega)]
      refine k μ4 F (hS.mv F (fun i => by rw [f4 7 13 i (by omega), f3 7 13 i (by omega)])) (fun q hq => by rw [f4 7 10 q (by omega), f3 7 10 q (by omega)]) (Or.inr ⟨μ 7 10, hself, fun q hq => ?_, ?_, ?_, ?_, ?_, fun row' hr => Or.inr ⟨?_, ?_⟩⟩)
      · show μ4 7 3 q = μ 7 10 q
        rw [e4, cp_in hq, f3 7 10 q (by omega)]
      · show μ4 7 0 0 = h
        rw [f4 7 0 0 (by omega), e3, m_up_at]
      · show μ4 7 0 1 = _
        rw [f4 7 0 1 (by omega), e3, m_up_ne _ _ (by omega), e2, m_up_at]; exact hho
      · show μ4 7 0 8 = _
        rw [f4 7 0 8 (by omega), e3, m_up_ne _ _ (by omega), e2, m_up_ne _ _ (by omega), e1, m_up_at]; exact hho
      · show μ 7 0 8 < _
        rw [← hho]; omega
      · rw [hsum row' hr, hho]
      · exact Or.inl (fun q hq => (hr.2.2 q hq).symm)
  | succ r ih =>
    intro p hp d μ wt hope K hS hpf i8 htb hcn hho k
    have hp6 : p < rm := by omega
    have hwin : ∀ c, c < 8 → wf B kn (μ 7 10) p c = true → 0 ≤ mxv A w h c rm ∧ mxv A w h c rm ≤ 99 := fun c hc hf => by
      have := (hS.2.2.1 c hc (bl_iff.mp hf).1).2.2
      have := mxv_in A w h c rm
      omega
    have b1 := rowSum_in A w h (μ 7 10) p
    have b2 := ws_in (f := wf B kn (μ 7 10) p) (m := fun c => mxv A w h c rm) 8 hwin
    obtain ⟨x, hx⟩ : ∃ x : Nat, wt = (x : Int) := ⟨wt.toNat, by have := i8.1; omega⟩
    have hx8 : x < 256 := by have := i8.2; omega
    have hpc : popc x = m_cnt (wf B kn (μ 7 10) p) 0 8 := m_cnt_congr 8 0 (fun j _ hj => by
      rw [← htb j (by omega), hx]
      unfold tb
      rw [Int.toNat_natCast])
    have e89 : d + (r + 1) + 8 = d + r + 9 := by omega
    have arr_p : ∀ row', isArr B kn rm row' → row' p = -1 ∨ ∃ c : Nat, c < 8 ∧ row' p = (c : Int) ∧ B 3 c = (kn : Int) := fun row' hr => hr.1 p hp6
    refine EX1_fillFrom (fun X C R => ⟨fun _ => ?_, fun q => absurd (by rw [hS.2.1.1]; omega) q⟩)
    -- the children, one after the other
    have L : ∀ (r2 c : Nat) (μ1 : m_M), c + r2 = 8 → FRs μ μ1 → SI A B t kn rm w h μ1 → (∀ q, q < p → μ1 7 10 q = μ 7 10 q) → PO A w h rm (fun row' => SS A B kn rm w h (μ 7 10) p row' ∧ row' p < (c : Int)) (XX μ) (XX μ1) → mW G X YX1_fillFrom μ1 46 [some (vR 7 0), some (vI (p : Int)), some (vI wt), some (vI hope), some (vI (c : Int)), none, none] [] := by
      intro r2
      induction r2 with
      | zero =>
        intro c μ1 hc f1 s1 q1 po
        refine VX1_fillFrom_46 C R ⟨fun _ => k μ1 f1 s1 q1 (po.sub (fun row' => ⟨fun z => z.1, fun z => ⟨z, ?_⟩⟩)), fun q => absurd (by omega) q⟩
        rcases arr_p row' z.1 with y | ⟨c', hc', y, -⟩ <;> omega
      | succ r2 ih2 =>
        intro c μ1 hc f1 s1 q1 po
        have ht := tb_i (x := wt) (k := c) i8.bt (by omega)
        have wc : w32 ((c : Int) + 1) = ((c + 1 : Nat) : Int) := w32_s (by omega)
        have hwc := htb c (by omega)
        -- no row goes on with this child
        have skip : ∀ μ2, FRs μ μ2 → SI A B t kn rm w h μ2 → (∀ q, q < p → μ2 7 10 q = μ 7 10 q) → PO A w h rm (fun row' => SS A B kn rm w h (μ 7 10) p row' ∧ row' p < (c : Int)) (XX μ) (XX μ2) → (∀ row', SS A B kn rm w h (μ 7 10) p row' → row' p ≠ (c : Int)) → mW G X YX1_fillFrom μ2 46 [some (vR 7 0), some (vI (p : Int)), some (vI wt), some (vI hope), some (vI ((c + 1 : Nat) : Int)), none, none] [] := fun μ2 f2 s2 q2 po2 hno =>
          ih2 (c + 1) μ2 (by omega) f2 s2 q2 (po2.sub (fun row' => ⟨fun z => ⟨z.1, by have := z.2; omega⟩, fun z => ⟨z.1, by have := z.2; have := hno row' z.1; omega⟩⟩))
        refine VX1_fillFrom_46 C R ⟨fun q => absurd q (by omega), fun _ => ?_⟩
        rw [wc]
        refine ⟨fun q x1 e1 => ?_, fun q => ?_⟩
        · subst e1
          rw [ht, hwc] at q
          refine skip μ1 f1 s1 q1 po (fun row' hr z => q ?_)
          rcases arr_p row' hr.1 with y | ⟨c', hc', y, hk⟩
          · omega
          · have : c' = c := by omega
            subst this
            exact bl_t ⟨hk, fun j hj z2 => by
              rw [← hr.2.2 j hj] at z2
              have := hr.1.2.2 j p (by omega) hp6 (z2.trans z.symm) (by omega)
              omega⟩
        · rw [ht, hwc] at q
          obtain ⟨hk, hne⟩ := bl_iff.mp q
          have hc8 : c < 8 := by omega
          have hm := hwin c hc8 q
          have s3 := s1.2.2.1 c hc8 hk
          have iT := TV_in A w h c p
          rw [w32_le (z := (c : Int) * 6) (by omega) (by omega), w32_le (z := (c : Int) * 6 + (p : Int)) (by omega) (by omega), show (c : Int) * 6 + (p : Int) = ((6 * c + p : Nat) : Int) by omega, Int.toNat_natCast, Int.toNat_natCast, s3.1 p hp6, s3.2.1]
          refine ⟨⟨by omega, by omega⟩, fun x2 e2 => ⟨⟨by omega, by omega⟩, fun x3 e3 => ?_⟩⟩
          subst e2
          rw [w32_le (z := hope - mxv A w h c rm) (by omega) (by omega), w32_le (by omega) (by omega)] at e3
          -- what waits behind this child
          have wsr : ∀ row', (∀ j, j < p → row' j = μ 7 10 j) → row' p = (c : Int) → ws (wf B kn (μ 7 10) p) (fun c => mxv A w h c rm) 8 = ws (wf B kn row' (p + 1)) (fun c => mxv A w h c rm) 8 + mxv A w h c rm := fun row' hj hpc =>
            ws_rm (f := wf B kn (μ 7 10) p) (g := wf B kn row' (p + 1)) (m := fun c => mxv A w h c rm) (c := c) q (wf_no hpc) 8 hc8 (fun j _ hjc => by rw [wf_s (by omega)]; exact wf_congr hj)
          refine ⟨fun q2 x4 e4 => ?_, fun q2 => ⟨fun q3 x5 e5 => ?_, fun q3 => ?_⟩⟩
          · subst e4
            refine skip μ1 f1 s1 q1 po (fun row' hr z => ?_)
            have := (hr.2.1 p hp6 (by omega)).1
            rw [z, Int.toNat_natCast, ← TV_ok] at this
            exact this q2
          · subst e5
            have hcr := TV_ok.mp q2
            have po2 : PO A w h rm (fun row' => SS A B kn rm w h (μ 7 10) p row' ∧ row' p = (c : Int)) (XX μ1) (XX μ1) := PO.none (fun row' hr => by
              show rowSum A w h row' rm ≤ μ1 7 0 8
              have := sum_bd hr.1.1 hr.1.2.1 (m := fun c => mxv A w h c rm) (fun c' hc' hk' j hj hcr' => by rw [← TV_eq hcr']; exact mxv_ge A w h c' rm j hj) (rm - (p + 1)) (p + 1) (by omega)
              have hs : rowSum A w h row' (p + 1) = rowSum A w h row' p + (if row' p = -1 then 0 else p_ring A (row' p).toNat h p w) := rfl
              rw [if_neg (by have := hr.2; omega), hr.2, Int.toNat_natCast, rowSum_congr p hr.1.2.2, ← TV_eq hcr] at hs
              have := wsr row' hr.1.2.2 hr.2
              omega)
            refine ih2 (c + 1) μ1 (by omega) f1 s1 q1 ((po.seq po2 (fun r1 r2 h1 h2 => Or.inr ⟨p, hp6, fun j hj => by rw [h1.1.2.2 j hj, h2.1.2.2 j hj], by have := h1.2; have := h2.2; omega⟩)).sub (fun row' => ⟨fun z => ?_, fun z => ?_⟩))
            · rcases z with z | z
              · exact ⟨z.1, by have := z.2; omega⟩
              · exact ⟨z.1, by have := z.2; omega⟩
            · by_cases y : row' p = (c : Int)
              · exact Or.inr ⟨z.1, y⟩
              · exact Or.inl ⟨z.1, by have := z.2; omega⟩
          · have hcr := TV_ok.mp q2
            have hpf1 : PFX A B kn w h (μ1 7 10) p := hpf.congr q1
            refine c_stl hB hrm hw hh s1 hp6 hc8 hk ?_ (fun μ6 f6 g6 s6 => ?_)
            · by_cases y : p = 0
              · exact Or.inl y
              · exact Or.inr (hpf1.1 (p - 1) (by omega))
            have r6 : ∀ j, μ6 7 10 j = μ1 7 10 j := fun j => g6 10 j (by decide)
            have x6 : XX μ6 = XX μ1 := by
              have e3 : μ6 7 3 = μ1 7 3 := by funext j; exact g6 3 j (by decide)
              show (μ6 7 0 0, μ6 7 0 1, μ6 7 0 8, μ6 7 3) = (μ1 7 0 0, μ1 7 0 1, μ1 7 0 8, μ1 7 3)
              rw [g6 0 0 (by decide), g6 0 1 (by decide), g6 0 8 (by decide), e3]
            have po6 : PO A w h rm (fun row' => SS A B kn rm w h (μ 7 10) p row' ∧ row' p < (c : Int)) (XX μ) (XX μ6) := by rw [x6]; exact po
            have q6 : ∀ j, j < p → μ6 7 10 j = μ 7 10 j := fun j hj => (r6 j).trans (q1 j hj)
            by_cases hst : stL A w h (μ1 7 10) c p = true
            · rw [if_pos hst]
              refine ⟨fun _ x8 e8 => ?_, z1⟩
              subst e8
              refine skip μ6 (f1.tr f6) s6 q6 po6 (fun row' hr z => ?_)
              unfold stL at hst
              simp only [Bool.and_eq_true, decide_eq_true_eq, bne_iff_ne] at hst
              obtain ⟨⟨p0, hl⟩, hsk⟩ := hst
              have hl' : row' (p - 1) = μ1 7 10 (p - 1) := (hr.2.2 (p - 1) (by omega)).trans (q1 (p - 1) (by omega)).symm
              have ok := hr.2.1 (p - 1) (by omega) (by rw [hl']; exact hl)
              have ok2 := ok.2 (by omega) (by rw [show p - 1 + 1 = p by omega, z]; omega)
              rw [show p - 1 + 1 = p by omega, z, Int.toNat_natCast, hl'] at ok2
              rw [hl'] at ok
              rw [TV_eq ok.1, TV_eq hcr, ok2] at hsk
              exact absurd hsk (by decide)
            · rw [if_neg hst]
              have hst' : stL A w h (μ1 7 10) c p = false := by revert hst; cases stL A w h (μ1 7 10) c p <;> simp
              refine ⟨z0, fun _ => ⟨⟨by omega, by omega⟩, fun μ9 e9 => ?_⟩⟩
              rw [Int.toNat_natCast] at e9
              rw [e89, w32_s (by omega)]
              obtain ⟨c8, ctb⟩ := clr i8 hc8
              have r9 : ∀ j, j < p → μ9 7 10 j = μ 7 10 j := fun j hj => by rw [e9, m_up_ne _ _ (by omega)]; exact q6 j hj
              have r9p : μ9 7 10 p = (c : Int) := by rw [e9, m_up_at]
              have F9 : FRs μ6 μ9 := fun x y z a b => by rw [e9, m_up_ne _ _ (by omega)]
              have s9 := s6.mv F9 (fun i => by rw [e9, m_up_ne _ _ (by omega)])
              have hpf9 : PFX A B kn w h (μ9 7 10) (p + 1) := by
                refine (hpf.congr r9).child hc8 hk r9p (fun j hj => by rw [r9 j hj]; exact hne j hj) hcr ?_
                unfold stL at hst' ⊢
                by_cases y : p = 0
                · subst y; rfl
                · rw [r9 (p - 1) (by omega), ← q1 (p - 1) (by omega)]; exact hst'
              have wf9 : ∀ j, j < 8 → j ≠ c → wf B kn (μ9 7 10) (p + 1) j = wf B kn (μ 7 10) p j := fun j hj hjc => by rw [wf_s (by omega)]; exact wf_congr r9
              refine ih (p + 1) (by omega) d μ9 _ _ _ s9 hpf9 c8 (fun j hj => ?_) ?_ ?_ (fun μ10 f10 s10 q10 po10 x11 e11 => ?_)
              · rw [ctb j hj, htb j hj]
                by_cases y : c = j
                · subst y
                  rw [wf_no r9p]; simp
                · rw [wf9 j hj (by omega)]; simp [y]
              · have := m_cnt_rm (f := wf B kn (μ 7 10) p) (g := wf B kn (μ9 7 10) (p + 1)) (c := c) q (wf_no r9p) 8 0 (by omega) (by omega) (fun j _ hj hjc => wf9 j (by omega) hjc)
                omega
              · have hs : rowSum A w h (μ9 7 10) (p + 1) = rowSum A w h (μ9 7 10) p + (if μ9 7 10 p = -1 then 0 else p_ring A (μ9 7 10 p).toNat h p w) := rfl
                rw [if_neg (by omega), r9p, Int.toNat_natCast, rowSum_congr p r9, ← TV_eq hcr] at hs
                have := wsr (μ9 7 10) r9 r9p
                omega
              · subst e11
                have x9 : XX μ9 = XX μ6 := by
                  have e3 : μ9 7 3 = μ6 7 3 := by funext j; rw [e9, m_up_ne _ _ (by omega)]
                  show (μ9 7 0 0, μ9 7 0 1, μ9 7 0 8, μ9 7 3) = (μ6 7 0 0, μ6 7 0 1, μ6 7 0 8, μ6 7 3)
                  rw [e3, e9, m_up_ne _ _ (by omega), m_up_ne _ _ (by omega), m_up_ne _ _ (by omega)]
                rw [x9] at po10
                refine ih2 (c + 1) μ10 (by omega) (((f1.tr f6).tr F9).tr f10) s10 (fun j hj => (q10 j (by omega)).trans (r9 j hj)) ((po6.seq po10 (fun r1 r2 h1 h2 => Or.inr ⟨p, hp6, fun j hj => by rw [h1.1.2.2 j hj, h2.2.2 j (by omega), r9 j hj], by have := h1.2; have := h2.2.2 p (by omega); rw [r9p] at this; omega⟩)).sub (fun row' => ⟨fun z => ?_, fun z => ?_⟩))
                · rcases z with z | z
                  · exact ⟨z.1, by have := z.2; omega⟩
                  · have z3 := z.2.2 p (by omega)
                    rw [r9p] at z3
                    exact ⟨⟨z.1, z.2.1, fun j hj => by rw [z.2.2 j (by omega), r9 j hj]⟩, by omega⟩
                · by_cases y : row' p = (c : Int)
                  · refine Or.inr ⟨z.1.1, z.1.2.1, fun j hj => ?_⟩
                    by_cases y2 : j = p
                    · subst y2; rw [r9p]; exact y
                    · rw [r9 j (by omega)]; exact z.1.2.2 j (by omega)
                  · exact Or.inl ⟨z.1, by have := z.2; omega⟩
    rw [hx]
    refine c_bitCount hx8 ?_
    rw [← hx, hS.2.1.1, w32_le (by omega) (by omega), hpc]
    refine ⟨fun q => ?_, fun q => ⟨⟨by omega, by omega⟩, fun μ4 e4 => ?_⟩⟩
    · refine L 8 0 μ (by omega) (FRs.rf μ) hS (fun _ _ => rfl) (PO.none (fun row' hr => ?_))
      exfalso
      rcases arr_p row' hr.1.1 with y | ⟨c', hc', y, -⟩
      · have := hr.1.1.fit1 hp6 y
        have e : m_cnt (wf B kn row' p) 0 8 = m_cnt (wf B kn (μ 7 10) p) 0 8 := m_cnt_congr 8 0 (fun j _ _ => wf_congr hr.1.2.2)
        omega
      · have := hr.2; omega
    · rw [Int.toNat_natCast] at e4
      rw [e89, w32_s (by omega)]
      have r4 : ∀ j, j < p → μ4 7 10 j = μ 7 10 j := fun j hj => by rw [e4, m_up_ne _ _ (by omega)]
      have r4p : μ4 7 10 p = -1 := by rw [e4, m_up_at]
      have F4 : FRs μ μ4 := fun x y z a b => by rw [e4, m_up_ne _ _ (by omega)]
      have s4 := hS.mv F4 (fun i => by rw [e4, m_up_ne _ _ (by omega)])
      have wf4 : ∀ j, wf B kn (μ4 7 10) (p + 1) j = wf B kn (μ 7 10) p j := fun j => by rw [wf_s (by omega)]; exact wf_congr r4
      have wfe : wf B kn (μ4 7 10) (p + 1) = wf B kn (μ 7 10) p := by funext j; exact wf4 j
      refine ih (p + 1) (by omega) d μ4 _ _ _ s4 ((hpf.congr r4).none r4p) i8 (fun j hj => by rw [wf4]; exact htb j hj) (by rw [wfe]; omega) ?_ (fun μ5 f5 s5 q5 po5 => ?_)
      · have hs : rowSum A w h (μ4 7 10) (p + 1) = rowSum A w h (μ4 7 10) p + (if μ4 7 10 p = -1 then 0 else p_ring A (μ4 7 10 p).toNat h p w) := rfl
        rw [if_pos r4p, rowSum_congr p r4] at hs
        rw [wfe, hs, Int.add_zero]; exact hho
      · have x4 : XX μ4 = XX μ := by
          have e3 : μ4 7 3 = μ 7 3 := by funext j; rw [e4, m_up_ne _ _ (by omega)]
          show (μ4 7 0 0, μ4 7 0 1, μ4 7 0 8, μ4 7 3) = (μ 7 0 0, μ 7 0 1, μ 7 0 8, μ 7 3)
          rw [e3, e4, m_up_ne _ _ (by omega), m_up_ne _ _ (by omega), m_up_ne _ _ (by omega)]
        rw [x4] at po5
        refine L 8 0 μ5 (by omega) (F4.tr f5) s5 (fun j hj => (q5 j (by omega)).trans (r4 j hj)) (po5.sub (fun row' => ⟨fun z => ?_, fun z => ?_⟩))
        · have z3 := z.2.2 p (by omega)
          rw [r4p] at z3
          exact ⟨⟨z.1, z.2.1, fun j hj => by rw [z.2.2 j (by omega), r4 j hj]⟩, by omega⟩
        · refine ⟨z.1.1, z.1.2.1, fun j hj => ?_⟩
          by_cases y2 : j = p
          · subst y2
            rcases arr_p row' z.1.1 with y | ⟨c', hc', y, -⟩
            · rw [r4p]; exact y
            · have := z.2; omega
          · rw [r4 j (by omega)]; exact z.1.2.2 j (by omega)
end FI
