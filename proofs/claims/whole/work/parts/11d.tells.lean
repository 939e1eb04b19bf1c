/-! ===== who tells most ===== -/
/-- at how many numbers below n, of those where f holds, g is v -/
def cn (f : Nat → Bool) (g : Nat → Int) : Nat → Int → Nat
  | 0, _ => 0
  | n + 1, v => cn f g n v + (if f n = true ∧ g n = v then 1 else 0)
def mst (f : Nat → Bool) (g : Nat → Int) : Nat → Nat
  | 0 => 0
  | n + 1 => if f n then (if mst f g n < cn f g (n + 1) (g n) then cn f g (n + 1) (g n) else mst f g n) else mst f g n
theorem cn_le (f : Nat → Bool) (g : Nat → Int) (v : Int) : ∀ n, cn f g n v ≤ n := by
  intro n
  induction n with
  | zero => exact Nat.le_refl 0
  | succ n ih => unfold cn; split <;> omega
theorem mst_le (f : Nat → Bool) (g : Nat → Int) : ∀ n, mst f g n ≤ n := by
  intro n
  induction n with
  | zero => exact Nat.le_refl 0
  | succ n ih =>
    have := cn_le f g (g n) (n + 1)
    unfold mst
    split
    · split <;> omega
    · omega
theorem mst_mono (f : Nat → Bool) (g : Nat → Int) : ∀ r n, mst f g n ≤ mst f g (n + r) := by
  intro r
  induction r with
  | zero => intro n; exact Nat.le_refl _
  | succ r ih =>
    intro n
    have h1 := ih n
    have h2 : mst f g (n + r) ≤ mst f g (n + r + 1) := by
      show _ ≤ if f (n + r) then (if mst f g (n + r) < cn f g (n + r + 1) (g (n + r)) then cn f g (n + r + 1) (g (n + r)) else mst f g (n + r)) else mst f g (n + r)
      split
      · split <;> omega
      · omega
    rw [show n + (r + 1) = n + r + 1 by omega]
    omega
theorem mst_pos {f : Nat → Bool} {g : Nat → Int} {j n : Nat} (hj : j < n) (hf : f j = true) : 1 ≤ mst f g n := by
  have h := mst_mono f g (n - (j + 1)) (j + 1)
  rw [show j + 1 + (n - (j + 1)) = n by omega] at h
  have h1 : 1 ≤ mst f g (j + 1) := by
    show 1 ≤ if f j then (if mst f g j < cn f g (j + 1) (g j) then cn f g (j + 1) (g j) else mst f g j) else mst f g j
    rw [if_pos hf]
    have : 1 ≤ cn f g (j + 1) (g j) := by
      show 1 ≤ cn f g j (g j) + (if f j = true ∧ g j = g j then 1 else 0)
      rw [if_pos ⟨hf, rfl⟩]
      omega
    split <;> omega
  omega
section TE
variable {G : m_G} {a1 a2 a3 a4 : Int}
/-- which heats, how they ring -/
def tlF (S : Int) : Nat → Bool := fun i => tb S i
def tlG (A : m_T) (week : Int) (c p : Nat) : Nat → Int := fun i => p_ring A c i p week
theorem c_mostLeft {d : Nat} {μ : m_M} {A : m_T} {t s b : Nat} (h : RA μ A t s b) {S : Int} (hS : bt S) {c p : Nat} (hc : c < tw_nc A) (hp : p < 6) (hne : ∃ j, j < 21 ∧ tb S j = true) {K : Int → m_M → Prop} (k : ∀ (r : Nat) (μ1 : m_M), (∀ x y z, x ≠ 5 → ¬ (x = 8 ∧ y = 6) → μ1 x y z = μ x y z) → ((mst (tlF S) (tlG A (μ 10 0 0) c p) 21 : Int) < μ 8 0 3 → r = mst (tlF S) (tlG A (μ 10 0 0) c p) 21) → (μ 8 0 3 ≤ (mst (tlF S) (tlG A (μ 10 0 0) c p) 21 : Int) → μ 8 0 3 ≤ (r : Int)) → K (r : Int) μ1) : c_i G (d + 8) YX8_mostLeft [vR 8 0, vR 4 0, vI (μ 10 0 0), vI (c : Int), vI (p : Int), vI S] μ K := by
  obtain ⟨f, hf⟩ : ∃ f, f = tlF S := ⟨_, rfl⟩
  obtain ⟨g, hg⟩ : ∃ g, g = tlG A (μ 10 0 0) c p := ⟨_, rfl⟩
  obtain ⟨Tm, hTm⟩ : ∃ Tm, Tm = μ 8 0 3 := ⟨_, rfl⟩
  rw [← hf, ← hg, ← hTm] at k
  have hpos : 1 ≤ mst f g 21 := by
    obtain ⟨j, hj, hj2⟩ := hne
    exact mst_pos hj (by rw [hf]; exact hj2)
  refine EX8_mostLeft (fun X C R => c_fill (n := 100) rfl (by decide) (by decide) ?_)
  have L : ∀ (r i l : Nat) (μ1 : m_M), i + r = 21 → (∀ x y z, x ≠ 5 → ¬ (x = 8 ∧ y = 6) → μ1 x y z = μ x y z) → (∀ v : Nat, v < 100 → μ1 8 6 v = (cn f g i (v : Int) : Int)) → (l = 1 ∧ mst f g i ≤ 1 ∨ l = mst f g i ∧ 1 ≤ l) → mW G X YX8_mostLeft μ1 14 [some (vR 8 0), some (vR 4 0), some (vI (μ 10 0 0)), some (vI (c : Int)), some (vI (p : Int)), some (vI S), some (vI (l : Int)), some (vI (i : Int)), none] [] := by
    intro r
    induction r with
    | zero =>
      intro i l μ1 hi e1 e2 hl
      have ei : i = 21 := by omega
      subst ei
      exact VX8_mostLeft_14 C R ⟨fun _ => k l μ1 e1 (fun _ => by omega) (fun _ => by omega), fun q => absurd (by omega) q⟩
    | succ r ih =>
      intro i l μ1 hi e1 e2 hl
      refine VX8_mostLeft_14 C R ⟨fun q => absurd q (by omega), fun _ => ?_⟩
      rw [e1 8 0 3 (by decide) (by omega), ← hTm, w32_s (by omega)]
      have ht := tb_i (x := S) (k := i) hS (by omega)
      have hmm := mst_mono f g (21 - i) i
      rw [show i + (21 - i) = 21 by omega] at hmm
      refine ⟨fun q => ?_, fun q => ⟨fun q2 x1 ex1 => ?_, fun q2 => ?_⟩⟩
      · exact k l μ1 e1 (fun z => by omega) (fun _ => by omega)
      · subst ex1
        rw [ht] at q2
        have hfi : f i = false := by rw [hf]; show tb S i = false; revert q2; cases tb S i <;> simp
        refine ih (i + 1) l μ1 (by omega) e1 (fun v hv => ?_) ?_
        · rw [e2 v hv]
          show _ = ((cn f g i (v : Int) + (if f i = true ∧ g i = (v : Int) then 1 else 0) : Nat) : Int)
          rw [if_neg (fun z => by rw [hfi] at z; exact absurd z.1 (by decide)), Nat.add_zero]
        · have : mst f g (i + 1) = mst f g i := by
            show (if f i then (if mst f g i < cn f g (i + 1) (g i) then cn f g (i + 1) (g i) else mst f g i) else mst f g i) = mst f g i
            rw [hfi]; rfl
          rw [this]; exact hl
      · rw [ht] at q2
        have hfi : f i = true := by rw [hf]; exact q2
        have h1 : RA μ1 A t s b := h.fS (fun x y z hz => e1 x y z (fun a => hz (Or.inl a)) (fun a => hz (Or.inr (Or.inr (Or.inl ⟨a.1, Or.inl a.2⟩)))))
        refine c_temperOf h1.1.1 hc (by unfold sm; omega) (by omega) (by unfold sm; omega) h.2.1.sw (fun μ2 o2 => ?_)
        have hri := p_ring_in A c i p (μ 10 0 0)
        obtain ⟨v, hv⟩ : ∃ v : Nat, p_ring A c i p (μ 10 0 0) = (v : Int) := ⟨(p_ring A c i p (μ 10 0 0)).toNat, by omega⟩
        have hgv : g i = (v : Int) := by rw [hg]; exact hv
        rw [hv] at hri ⊢
        rw [Int.toNat_natCast, o2 8 6 v (by decide), e2 v (by omega)]
        have hcl := cn_le f g (v : Int) i
        refine ⟨⟨by omega, by omega⟩, ⟨by omega, by omega⟩, fun μ5 e5 => ⟨⟨by omega, by omega⟩, fun x6 e6 x7 e7 => ?_⟩⟩
        rw [w32_s (by omega)] at e5
        rw [e5, m_up_at] at e6
        subst e7
        have hcs : cn f g (i + 1) (v : Int) = cn f g i (v : Int) + 1 := by
          show cn f g i (v : Int) + (if f i = true ∧ g i = (v : Int) then 1 else 0) = _
          rw [if_pos ⟨hfi, hgv⟩]
        have hms : mst f g (i + 1) = if mst f g i < cn f g i (v : Int) + 1 then cn f g i (v : Int) + 1 else mst f g i := by
          show (if f i then (if mst f g i < cn f g (i + 1) (g i) then cn f g (i + 1) (g i) else mst f g i) else mst f g i) = _
          rw [if_pos hfi, hgv, hcs]
        obtain ⟨l', hl'⟩ : ∃ l' : Nat, x6 = (l' : Int) ∧ l' = (if l < cn f g i (v : Int) + 1 then cn f g i (v : Int) + 1 else l) := by
          refine ⟨_, ?_, rfl⟩
          rw [e6]
          split <;> split <;> omega
        rw [hl'.1]
        refine ih (i + 1) l' μ5 (by omega) (fun x y z a c => ?_) (fun w hw => ?_) ?_
        · rw [e5, m_up_ne _ _ (fun z => c ⟨z.1, z.2.1⟩), o2 x y z a]; exact e1 x y z a c
        · rw [e5]
          by_cases z : w = v
          · subst z; rw [m_up_at, hcs]
          · rw [m_up_ne _ _ (by omega), o2 8 6 w (by decide), e2 w hw]
            show _ = ((cn f g i (w : Int) + (if f i = true ∧ g i = (w : Int) then 1 else 0) : Nat) : Int)
            rw [if_neg (fun y => z (by have := y.2; rw [hgv] at this; omega)), Nat.add_zero]
        · rw [hms, hl'.2]
          split <;> split <;> omega
  refine L 21 0 1 _ (by omega) (fun x y z a c => by unfold m_fl; rw [if_neg (fun q => c ⟨q.1, q.2.1⟩)]) (fun v hv => ?_) (Or.inl ⟨rfl, by unfold mst; omega⟩)
  rw [fl_in hv]; rfl
theorem mo_mostBy {d : Nat} {μ : m_M} {A : m_T} {t s b : Nat} (h : RA μ A t s b) {S : Int} (hS : bt S) {c p : Nat} (hc : c < tw_nc A) (hp : p < 6) {K : Int → m_M → Prop} (k : ∀ (μ1 : m_M), ofS μ μ1 → K (mst (tlF S) (tlG A (μ 10 0 0) c p) 21 : Int) μ1) : c_i G (d + 5) YX12_mostBy [vR 34 0, vI S, vI (c : Int), vI (p : Int)] μ K := by
  obtain ⟨f, hf⟩ : ∃ f, f = tlF S := ⟨_, rfl⟩
  obtain ⟨g, hg⟩ : ∃ g, g = tlG A (μ 10 0 0) c p := ⟨_, rfl⟩
  rw [← hf, ← hg] at k
  refine EX12_mostBy (fun X C R => ?_)
  have L : ∀ (r i : Nat) (μ1 : m_M), i + r = 21 → ofS μ μ1 → (∀ v : Nat, v < 100 → μ1 34 65 v = (cn f g i (v : Int) : Int)) → mW G X YX12_mostBy μ1 30 [some (vR 34 0), some (vI S), some (vI (c : Int)), some (vI (p : Int)), some (vI (mst f g i : Int)), some (vI (i : Int)), none] [] := by
    intro r
    induction r with
    | zero =>
      intro i μ1 hi o1 e2
      have ei : i = 21 := by omega
      subst ei
      exact VX12_mostBy_30 C R ⟨fun _ => k μ1 o1, fun q => absurd (by omega) q⟩
    | succ r ih =>
      intro i μ1 hi o1 e2
      have ht := tb_i (x := S) (k := i) hS (by omega)
      refine VX12_mostBy_30 C R ⟨fun q => absurd q (by omega), fun _ => ?_⟩
      rw [w32_s (by omega)]
      refine EX12_has2 ⟨fun q => ⟨z0, fun _ x11 e11 => ?_⟩, fun q => ⟨fun _ => ?_, z1⟩⟩
      · subst e11
        rw [ht] at q
        have hfi : f i = false := by rw [hf]; show tb S i = false; revert q; cases tb S i <;> simp
        have hms : mst f g (i + 1) = mst f g i := by
          show (if f i then (if mst f g i < cn f g (i + 1) (g i) then cn f g (i + 1) (g i) else mst f g i) else mst f g i) = mst f g i
          rw [hfi]; rfl
        rw [← hms]
        refine ih (i + 1) μ1 (by omega) o1 (fun v hv => ?_)
        rw [e2 v hv]
        show _ = ((cn f g i (v : Int) + (if f i = true ∧ g i = (v : Int) then 1 else 0) : Nat) : Int)
        rw [if_neg (fun z => by rw [hfi] at z; exact absurd z.1 (by decide)), Nat.add_zero]
      · rw [ht] at q
        have hfi : f i = true := by rw [hf]; exact q
        have h1 := h.fS o1
        have w1 := h1.2.1.w.1
        refine cm_ring (v := 0) h1.1.2.1 (by decide) hc (by unfold sm; omega) (by unfold sm; omega) (by rw [w1]; exact h1.2.1.sw) (fun μ2 o2 => ?_)
        rw [w1, fr10 o1]
        have hri := p_ring_in A c i p (μ 10 0 0)
        obtain ⟨v, hv⟩ : ∃ v : Nat, p_ring A c i p (μ 10 0 0) = (v : Int) := ⟨(p_ring A c i p (μ 10 0 0)).toNat, by omega⟩
        have hgv : g i = (v : Int) := by rw [hg]; exact hv
        rw [hv] at hri ⊢
        rw [Int.toNat_natCast, o2 34 65 v (by omega), e2 v (by omega)]
        have hcl := cn_le f g (v : Int) i
        have hcs : cn f g (i + 1) (v : Int) = cn f g i (v : Int) + 1 := by
          show cn f g i (v : Int) + (if f i = true ∧ g i = (v : Int) then 1 else 0) = _
          rw [if_pos ⟨hfi, hgv⟩]
        have hms : mst f g (i + 1) = if mst f g i < cn f g i (v : Int) + 1 then cn f g i (v : Int) + 1 else mst f g i := by
          show (if f i then (if mst f g i < cn f g (i + 1) (g i) then cn f g (i + 1) (g i) else mst f g i) else mst f g i) = _
          rw [if_pos hfi, hgv, hcs]
        refine ⟨⟨by omega, by omega⟩, ⟨by omega, by omega⟩, fun μ5 e5 => ?_⟩
        rw [w32_s (by omega)] at e5
        have e5v : μ5 34 65 v = ((cn f g i (v : Int) + 1 : Nat) : Int) := by rw [e5, m_up_at]
        rw [e5v]
        have nx : mW G X YX12_mostBy μ5 30 [some (vR 34 0), some (vI S), some (vI (c : Int)), some (vI (p : Int)), some (vI (mst f g (i + 1) : Int)), some (vI ((i + 1 : Nat) : Int)), none] [] := by
          refine ih (i + 1) μ5 (by omega) ?_ (fun w hw => ?_)
          · rw [e5]; exact (o1.tr o2.S).tr (ofS.up (by unfold scr; omega))
          · rw [e5]
            by_cases z : w = v
            · subst z; rw [m_up_at, hcs]
            · rw [m_up_ne _ _ (by omega), o2 34 65 w (by omega), e2 w hw]
              show _ = ((cn f g i (w : Int) + (if f i = true ∧ g i = (w : Int) then 1 else 0) : Nat) : Int)
              rw [if_neg (fun y => z (by have := y.2; rw [hgv] at this; omega)), Nat.add_zero]
        refine ⟨⟨by omega, by omega⟩, fun q2 x8 e8 => ?_, fun q2 => ⟨⟨by omega, by omega⟩, fun x9 e9 x10 e10 => ?_⟩⟩
        · subst e8
          rw [hms, if_neg (by omega)] at nx
          exact nx
        · subst e10
          rw [hms, if_pos (by omega)] at nx
          rw [e9]; exact nx
  have L0 : ∀ (r i : Nat) (μ1 : m_M), i + r = 100 → ofS μ μ1 → (∀ v : Nat, v < i → μ1 34 65 v = 0) → mW G X YX12_mostBy μ1 3 [some (vR 34 0), some (vI S), some (vI (c : Int)), some (vI (p : Int)), some (vI (i : Int)), none, none] [] := by
    intro r
    induction r with
    | zero =>
      intro i μ1 hi o1 e2
      exact VX12_mostBy_3 C R ⟨fun _ => L 21 0 μ1 (by omega) o1 (fun v hv => by rw [e2 v (by omega)]; rfl), fun q => absurd (by omega) q⟩
    | succ r ih =>
      intro i μ1 hi o1 e2
      refine VX12_mostBy_3 C R ⟨fun q => absurd q (by omega), fun _ => ⟨⟨by omega, by omega⟩, fun μ3 e3 x4 e4 => ?_⟩⟩
      rw [w32_s (by omega)] at e4
      subst e4
      rw [Int.toNat_natCast] at e3
      subst e3
      refine ih (i + 1) _ (by omega) (o1.tr (ofS.up (by unfold scr; omega))) (fun v hv => ?_)
      by_cases z : v = i
      · subst z; rw [m_up_at]
      · rw [m_up_ne _ _ (by omega)]; exact e2 v (by omega)
  exact L0 100 0 μ (by omega) (ofS.rf μ) (fun v hv => by omega)
/-- which of k pairs tells most, and how much -/
def bT (M : Nat → Nat) : Nat → Int × Nat
  | 0 => (-1, 22)
  | k + 1 => if M k < (bT M k).2 then ((k : Int), M k) else bT M k
theorem bT_in {M : Nat → Nat} (hM : ∀ k, M k ≤ 21) : ∀ k, ((bT M k).1 = -1 ∧ (bT M k).2 = 22 ∧ k = 0) ∨ ∃ j : Nat, (bT M k).1 = (j : Int) ∧ j < k ∧ (bT M k).2 ≤ 21 := by
  intro k
  induction k with
  | zero => exact Or.inl ⟨rfl, rfl, rfl⟩
  | succ k ih =>
    have hk := hM k
    unfold bT
    rcases ih with ⟨h1, h2, h3⟩ | ⟨j, h1, h2, h3⟩
    · rw [if_pos (by omega)]; exact Or.inr ⟨k, rfl, by omega, hk⟩
    · split
      · exact Or.inr ⟨k, rfl, by omega, hk⟩
      · exact Or.inr ⟨j, h1, by omega, h3⟩
def tM (A : m_T) (week S : Int) (k : Nat) : Nat := mst (tlF S) (tlG A week (k / 6) (k % 6)) 21
theorem tM_le (A : m_T) (week S : Int) (k : Nat) : tM A week S k ≤ 21 := mst_le _ _ 21
theorem bits_ne {f : Nat → Bool} (h : m_bits f 21 0 0 ≠ 0) : ∃ j, j < 21 ∧ tb (m_bits f 21 0 0) j = true := by
  obtain ⟨h1, h2⟩ := m_bits_spec f 21 0 0 (by omega) ⟨by omega, by omega⟩
  apply Classical.byContradiction
  intro hn
  refine h (tb_ext h1.1 (by omega) (fun c => ?_))
  rw [tb_0]
  by_cases hc : c < 21
  · cases q : tb (m_bits f 21 0 0) c with
    | false => rfl
    | true => exact absurd ⟨c, hc, q⟩ hn
  · rw [h2 c, tb_0]
    have : decide (0 ≤ c ∧ c < 0 + 21) = false := by simp; omega
    rw [this]; rfl
theorem c_findTelling {d : Nat} {μ : m_M} {A : m_T} {t s b : Nat} (h : RA μ A t s b) {S : Int} (hS : S = m_bits (seeF μ A) 21 0 0) {K : Int → m_M → Prop} (k0 : ∀ μ1, ofS μ μ1 → (S = 0 ∨ (bT (tM A (μ 10 0 0) S) (6 * tw_nc A)).1 = -1) → K 0 μ1) (k1 : ∀ (μ1 : m_M) (j : Nat), ofS μ μ1 → S ≠ 0 → (bT (tM A (μ 10 0 0) S) (6 * tw_nc A)).1 = (j : Int) → μ1 8 0 1 = ((j / 6 : Nat) : Int) → μ1 8 0 2 = ((j % 6 : Nat) : Int) → μ1 8 0 3 = ((bT (tM A (μ 10 0 0) S) (6 * tw_nc A)).2 : Int) → K 1 μ1) : c_i G (d + 10) YX8_findTelling [vR 8 0, vR 4 0, vI (μ 10 0 0)] μ K := by
  have hA := h.1.1.2.2.2.1
  have h8 := hA.1
  have hSb : bt S := by rw [hS]; exact (m_bits_spec _ 21 0 0 (by omega) ⟨by omega, by omega⟩).1
  obtain ⟨M, hM⟩ : ∃ M, M = tM A (μ 10 0 0) S := ⟨_, rfl⟩
  rw [← hM] at k0 k1
  have hML : ∀ k, M k ≤ 21 := fun k => by rw [hM]; exact tM_le _ _ _ _
  refine EX8_findTelling (fun X C R => cl_left h (fun μ1 o1 => ?_))
  rw [← hS]
  refine ⟨fun hne μ4 e4 μ5 e5 => ?_, fun q => k0 μ1 o1.S (Or.inl q)⟩
  have hex : ∃ j, j < 21 ∧ tb S j = true := by rw [hS]; exact bits_ne (by rw [← hS]; exact hne)
  have J : ∀ (r p c : Nat) (μ1 : m_M), p + r = 6 → c < tw_nc A → (∀ μ2, ofS μ μ2 → (bT M (6 * (c + 1))).1 ≠ -1 → (∀ j : Nat, (bT M (6 * (c + 1))).1 = (j : Int) → μ2 8 0 1 = ((j / 6 : Nat) : Int) ∧ μ2 8 0 2 = ((j % 6 : Nat) : Int)) → μ2 8 0 3 = ((bT M (6 * (c + 1))).2 : Int) → mW G X YX8_findTelling μ2 27 [some (vR 8 0), some (vR 4 0), some (vI (μ 10 0 0)), some (vI S), some (vI ((c + 1 : Nat) : Int)), none, none] []) → ofS μ μ1 → (∀ j : Nat, (bT M (6 * c + p)).1 = (j : Int) → μ1 8 0 1 = ((j / 6 : Nat) : Int) ∧ μ1 8 0 2 = ((j % 6 : Nat) : Int)) → μ1 8 0 3 = ((bT M (6 * c + p)).2 : Int) → mW G X YX8_findTelling μ1 42 [some (vR 8 0), some (vR 4 0), some (vI (μ 10 0 0)), some (vI S), some (vI (c : Int)), some (vI (p : Int)), none] [] := by
    intro r
    induction r with
    | zero =>
      intro p c μ1 hp hc nx o1 e1 e3
      refine VX8_findTelling_42 C R ⟨fun _ x1 ex => ?_, fun q => absurd (by omega) q⟩
      rw [w32_s (by omega)] at ex
      subst ex
      rw [show 6 * c + p = 6 * (c + 1) by omega] at e1 e3
      refine nx μ1 o1 ?_ e1 e3
      rcases bT_in hML (6 * (c + 1)) with z | ⟨j, z, -⟩
      · omega
      · omega
    | succ r ih =>
      intro p c μ1 hp hc nx o1 e1 e3
      refine VX8_findTelling_42 C R ⟨fun q => absurd q (by omega), fun _ => ?_⟩
      have h1 := h.fS o1
      have ep : w32 ((p : Int) + 1) = ((p + 1 : Nat) : Int) := w32_s (by omega)
      have f1 := fr10 o1
      rw [← f1, ep]
      refine c_mostLeft h1 hSb hc (by omega) hex (fun r2 μ2 o2 g1 g2 => ?_)
      have hMk : mst (tlF S) (tlG A (μ1 10 0 0) c p) 21 = M (6 * c + p) := by
        rw [hM, f1]
        unfold tM
        rw [show (6 * c + p) / 6 = c by omega, show (6 * c + p) % 6 = p by omega]
      rw [hMk, e3] at g1 g2
      have o12 : ofS μ μ2 := o1.tr (fun x y z hz => o2 x y z (fun a => hz (Or.inl a)) (fun a => hz (Or.inr (Or.inr (Or.inl ⟨a.1, Or.inl a.2⟩)))))
      have hbs : bT M (6 * c + (p + 1)) = if M (6 * c + p) < (bT M (6 * c + p)).2 then (((6 * c + p : Nat) : Int), M (6 * c + p)) else bT M (6 * c + p) := rfl
      rw [o2 8 0 3 (by decide) (by omega), e3, f1]
      refine ⟨fun q x5 ex => ?_, fun q μ6 e6 μ7 e7 μ8 e8 x9 ex => ?_⟩
      · subst ex
        have hn : ¬ M (6 * c + p) < (bT M (6 * c + p)).2 := fun z => by have := g1 (by omega); omega
        rw [if_neg hn] at hbs
        refine ih (p + 1) c μ2 (by omega) hc nx o12 ?_ ?_
        · rw [hbs]; intro j hj
          rw [o2 8 0 1 (by decide) (by omega), o2 8 0 2 (by decide) (by omega)]; exact e1 j hj
        · rw [hbs, o2 8 0 3 (by decide) (by omega)]; exact e3
      · subst ex
        have hy : M (6 * c + p) < (bT M (6 * c + p)).2 := by
          apply Classical.byContradiction
          intro z
          have := g2 (by omega)
          omega
        have er := g1 (by omega)
        rw [if_pos hy] at hbs
        have o8 : ofS μ μ8 := by rw [e8, e7, e6]; exact ((o12.tr (ofS.up (by unfold scr; omega))).tr (ofS.up (by unfold scr; omega))).tr (ofS.up (by unfold scr; omega))
        refine ih (p + 1) c μ8 (by omega) hc nx o8 ?_ ?_
        · rw [hbs]; intro j hj
          have hj : ((6 * c + p : Nat) : Int) = (j : Int) := hj
          have : j = 6 * c + p := by omega
          subst this
          rw [show (6 * c + p) / 6 = c by omega, show (6 * c + p) % 6 = p by omega]
          refine ⟨?_, ?_⟩
          · rw [e8, m_up_ne _ _ (by omega), e7, m_up_ne _ _ (by omega), e6, m_up_at]
          · rw [e8, m_up_ne _ _ (by omega), e7, m_up_at]
        · rw [hbs, e8, m_up_at, er]
  have I : ∀ (r c : Nat) (μ1 : m_M), c + r = tw_nc A → ofS μ μ1 → ((bT M (6 * c)).1 = -1 → μ1 8 0 1 = -1) → (∀ j : Nat, (bT M (6 * c)).1 = (j : Int) → μ1 8 0 1 = ((j / 6 : Nat) : Int) ∧ μ1 8 0 2 = ((j % 6 : Nat) : Int)) → μ1 8 0 3 = ((bT M (6 * c)).2 : Int) → mW G X YX8_findTelling μ1 27 [some (vR 8 0), some (vR 4 0), some (vI (μ 10 0 0)), some (vI S), some (vI (c : Int)), none, none] [] := by
    intro r
    induction r with
    | zero =>
      intro c μ1 hc o1 e0 e1 e3
      have h1 := h.fS o1
      have ec : c = tw_nc A := by omega
      subst ec
      refine VX8_findTelling_27 C R ⟨t, h1.1.1.2.1, h1.1.1.1, fun _ => ⟨fun q => ?_, fun q => ?_⟩, fun q => absurd (by rw [h1.1.1.nc]; omega) q⟩
      · rcases bT_in hML (6 * tw_nc A) with ⟨z, -⟩ | ⟨j, z, -⟩
        · exact k0 μ1 o1 (Or.inr z)
        · have := (e1 j z).1; omega
      · rcases bT_in hML (6 * tw_nc A) with ⟨z, -⟩ | ⟨j, z, -⟩
        · exact absurd (e0 z) q
        · exact k1 μ1 j o1 hne z (e1 j z).1 (e1 j z).2 e3
    | succ r ih =>
      intro c μ1 hc o1 e0 e1 e3
      have h1 := h.fS o1
      refine VX8_findTelling_27 C R ⟨t, h1.1.1.2.1, h1.1.1.1, fun q => absurd q (by rw [h1.1.1.nc]; omega), fun _ => ?_⟩
      exact J 6 0 c μ1 (by omega) (by omega) (fun μ2 o2 z e1' e3' => ih (c + 1) μ2 (by omega) o2 (fun y => absurd y z) e1' e3') o1 e1 e3
  refine I (tw_nc A) 0 μ5 (by omega) ?_ (fun _ => ?_) (fun j hj => ?_) ?_
  · rw [e5, e4]; exact (o1.S.tr (ofS.up (by unfold scr; omega))).tr (ofS.up (by unfold scr; omega))
  · rw [e5, m_up_ne _ _ (by omega), e4, m_up_at]
  · have hj : (-1 : Int) = (j : Int) := hj
    omega
  · rw [e5, m_up_at]; rfl
theorem mo_tells {d : Nat} {μ : m_M} {A : m_T} {t s b : Nat} (h : RA μ A t s b) {S : Int} (hS : S = m_bits (seeF μ A) 21 0 0) (ha : 0 ≤ a1 ∧ a1 ≤ 2) {Z : Int} (z0' : (S = 0 ∨ (bT (tM A (μ 10 0 0) S) (6 * tw_nc A)).1 = -1) → Z = -1) (z1' : S ≠ 0 → ∀ j : Nat, (bT (tM A (μ 10 0 0) S) (6 * tw_nc A)).1 = (j : Int) → Z = if a1 = 0 then ((j / 6 : Nat) : Int) else if a1 = 1 then ((j % 6 : Nat) : Int) else ((bT (tM A (μ 10 0 0) S) (6 * tw_nc A)).2 : Int)) : c_i G (d + 100) YX12_tells [vR 34 0, vI a1] μ (fun r2 μ2 => r2 = Z ∧ RR μ2) := by
  have hA := h.1.1.2.2.2.1
  have h8 := hA.1
  have hSb : bt S := by rw [hS]; exact (m_bits_spec _ 21 0 0 (by omega) ⟨by omega, by omega⟩).1
  obtain ⟨M, hM⟩ : ∃ M, M = tM A (μ 10 0 0) S := ⟨_, rfl⟩
  rw [← hM] at z0' z1'
  have hML : ∀ k, M k ≤ 21 := fun k => by rw [hM]; exact tM_le _ _ _ _
  refine EX12_tells (fun X C R => mo_seen h (fun μ1 o1 => ?_))
  rw [← hS]
  refine ⟨fun q => ⟨(z0' (Or.inl q)).symm, A, t, s, b, h.fS o1.S⟩, fun hne => mo_is_y ha ⟨fun _ => ?_, z1⟩⟩
  have L : ∀ (r k : Nat) (l3 l4 : Int) (μ1 : m_M), k + r = 6 * tw_nc A → ofS μ μ1 → l3 = (bT M k).1 → (l3 = -1 ∧ l4 = 100000000 ∨ l4 = ((bT M k).2 : Int)) → mW G X YX12_tells μ1 30 [some (vR 34 0), some (vI a1), some (vI S), some (vI l3), some (vI l4), some (vI (k : Int)), none] [] := by
    intro r
    induction r with
    | zero =>
      intro k l3 l4 μ1 hk o1 e3 e4
      have h1 := h.fS o1
      have hb := h1.1.2.1.2.1
      have ek : k = 6 * tw_nc A := by omega
      refine VX12_tells_30 C R ?_
      rw [h1.1.2.1.1, Int.toNat_natCast, h1.1.2.1.nc, w32_le (by omega) (by omega)]
      refine ⟨⟨by omega, by omega⟩, fun _ => ?_, fun q => absurd (by omega) q⟩
      rw [ek] at e3 e4
      have hR : RR μ1 := ⟨A, t, s, b, h1⟩
      rcases bT_in hML (6 * tw_nc A) with ⟨z, -⟩ | ⟨j, z, hj, -⟩
      · exact ⟨fun q => absurd (e3.trans z) q, fun _ => ⟨(z0' (Or.inr z)).symm, hR⟩⟩
      · have hz := z1' hne j z
        rw [z] at e3
        subst e3
        have e4 : l4 = ((bT M (6 * tw_nc A)).2 : Int) := e4.resolve_left (fun q => by omega)
        have d6 : (j : Int).tdiv 6 = ((j / 6 : Nat) : Int) := by rw [Int.tdiv_eq_ediv_of_nonneg (by omega)]; omega
        have m6 : (j : Int).tmod 6 = ((j % 6 : Nat) : Int) := by rw [Int.tmod_eq_emod_of_nonneg (by omega)]; omega
        rw [d6, m6, w32_le (by omega) (by omega)]
        refine ⟨fun _ => ⟨fun q => ⟨fun q2 => ⟨?_, hR⟩, fun q2 => ⟨?_, hR⟩⟩, fun q => ⟨?_, hR⟩⟩, fun q => absurd q (by omega)⟩
        · rw [hz, if_neg q, if_neg q2]; exact e4
        · rw [hz, if_neg q, if_pos q2]
        · rw [hz, if_pos q]
    | succ r ih =>
      intro k l3 l4 μ1 hk o1 e3 e4
      have h1 := h.fS o1
      have hb := h1.1.2.1.2.1
      have d6 : (k : Int).tdiv 6 = ((k / 6 : Nat) : Int) := by rw [Int.tdiv_eq_ediv_of_nonneg (by omega)]; omega
      have m6 : (k : Int).tmod 6 = ((k % 6 : Nat) : Int) := by rw [Int.tmod_eq_emod_of_nonneg (by omega)]; omega
      refine VX12_tells_30 C R ?_
      rw [h1.1.2.1.1, Int.toNat_natCast, h1.1.2.1.nc, w32_le (z := 6 * (tw_nc A : Int)) (by omega) (by omega), d6, m6, w32_le (z := ((k / 6 : Nat) : Int)) (by omega) (by omega), w32_s (by omega)]
      refine ⟨⟨by omega, by omega⟩, fun q => absurd q (by omega), fun _ => mo_mostBy h1 hSb (by omega) (by omega) (fun μ2 o2 => ?_)⟩
      have hMk : mst (tlF S) (tlG A (μ1 10 0 0) (k / 6) (k % 6)) 21 = M k := by rw [hM, fr10 o1]; rfl
      rw [hMk]
      have hbs : bT M (k + 1) = if M k < (bT M k).2 then ((k : Int), M k) else bT M k := rfl
      have hmk := hML k
      rcases bT_in hML k with ⟨y1, y2, y3⟩ | ⟨j, y1, y2, y3⟩
      · rw [if_pos (by omega)] at hbs
        have hl : (M k : Int) < l4 := by rcases e4 with z | z <;> omega
        refine ⟨fun _ x6 e6 => ?_, fun q => absurd hl q⟩
        subst e6
        exact ih (k + 1) _ _ μ2 (by omega) (o1.tr o2) (by rw [hbs]) (Or.inr (by rw [hbs]))
      · have hl : l4 = ((bT M k).2 : Int) := e4.resolve_left (fun q => by omega)
        refine ⟨fun q x6 e6 => ?_, fun q x6 e6 => ?_⟩
        · subst e6
          rw [if_pos (by omega)] at hbs
          exact ih (k + 1) _ _ μ2 (by omega) (o1.tr o2) (by rw [hbs]) (Or.inr (by rw [hbs]))
        · subst e6
          rw [if_neg (by omega)] at hbs
          exact ih (k + 1) _ _ μ2 (by omega) (o1.tr o2) (by rw [hbs]; exact e3) (Or.inr (by rw [hbs]; exact hl))
  exact L (6 * tw_nc A) 0 _ _ μ1 (by omega) o1.S rfl (Or.inl ⟨rfl, rfl⟩)
theorem S_tells : SIM G YX11_tells YX12_tells [vI a1] := by
  intro d μ ⟨A, t, s, b, h⟩
  by_cases ha : 0 ≤ a1 ∧ a1 ≤ 2
  · refine EX11_tells ⟨fun q => absurd q (by omega), fun _ => ⟨fun q => absurd q (by omega), fun _ => c_findTelling h rfl (fun μ1 o1 hz => ⟨z0, fun _ => ?_⟩) (fun μ1 j o1 hne hj g1 g2 g3 => ⟨fun _ => ?_, z1⟩)⟩⟩
    · have e := seeF_fr (A := A) o1
      have f1 := fr10 o1
      refine mo_tells (h.fS o1) rfl ha (fun _ => rfl) (fun hne j hj => ?_)
      rw [e] at hne hj
      rw [f1] at hj
      rcases hz with z | z
      · exact absurd z hne
      · rw [z] at hj; omega
    · have e := seeF_fr (A := A) o1
      have f1 := fr10 o1
      have key : ∀ Z : Int, Z = (if a1 = 0 then ((j / 6 : Nat) : Int) else if a1 = 1 then ((j % 6 : Nat) : Int) else ((bT (tM A (μ 10 0 0) (m_bits (seeF μ A) 21 0 0)) (6 * tw_nc A)).2 : Int)) → c_i G (d + 100) YX12_tells [vR 34 0, vI a1] μ1 (fun r2 μ2 => r2 = Z ∧ RR μ2) := fun Z hZ => by
        refine mo_tells (h.fS o1) rfl ha (fun hz => ?_) (fun _ j' hj' => ?_)
        · rw [e, f1] at hz
          rcases hz with z | z
          · exact absurd z hne
          · rw [z] at hj; omega
        · rw [e, f1] at hj' ⊢
          have : j' = j := by rw [hj] at hj'; omega
          subst this
          exact hZ
      refine ⟨fun q => key _ ?_, fun q => key _ ?_, fun q => key _ ?_⟩
      · rw [if_pos q]; exact g1
      · rw [if_neg (by omega), if_pos q]; exact g2
      · rw [if_neg q.1, if_neg q.2]; exact g3
  · have fin : c_i G (d + 100) YX12_tells [vR 34 0, vI a1] μ (fun r2 μ2 => r2 = -1 ∧ RR μ2) := by
      refine EX12_tells (fun X C R => mo_seen h (fun μ1 o1 => ⟨fun _ => ⟨rfl, A, t, s, b, h.fS o1.S⟩, fun _ => mo_is_n ha ⟨z0, fun _ => ⟨rfl, A, t, s, b, h.fS o1.S⟩⟩⟩))
    exact EX11_tells ⟨fun _ => fin, fun _ => ⟨fun _ => fin, fun q => absurd q (by omega)⟩⟩
end TE
