/-! ===== the reference reads a statement: its small steps ===== -/
def ofF (μ μ1 : m_M) : Prop := ∀ x y z, ¬ (x = 34 ∧ y = 0 ∧ ((3 ≤ z ∧ z ≤ 9) ∨ z = 12)) → μ1 x y z = μ x y z
theorem ofF.rf (μ : m_M) : ofF μ μ := fun _ _ _ _ => rfl
theorem ofF.tr {μ μ1 μ2 : m_M} (h : ofF μ μ1) (h2 : ofF μ1 μ2) : ofF μ μ2 := fun x y z a => (h2 x y z a).trans (h x y z a)
theorem ofF.K {μ μ1 : m_M} (h : ofK μ μ1) : ofF μ μ1 := fun x y z a => h x y z (by omega)
def ofT (b : Nat) (μ μ1 : m_M) : Prop := ∀ x y z, ¬ (x = 34 ∧ ((y = 0 ∧ ((3 ≤ z ∧ z ≤ 9) ∨ z = 12 ∨ z = 28 ∨ z = 30 ∨ z = 36 ∨ z = 37 ∨ z = 39 ∨ z = 40)) ∨ (32 ≤ y ∧ y ≤ 36) ∨ y = 39 ∨ ((y = 25 ∨ y = 26) ∧ 1600 * b ≤ z ∧ z < 1600 * b + 1600) ∨ ((y = 15 ∨ y = 18 ∨ y = 20 ∨ y = 21 ∨ y = 22) ∧ z = b) ∨ ((y = 16 ∨ y = 17 ∨ y = 27) ∧ 8 * b ≤ z ∧ z < 8 * b + 8) ∨ ((y = 19 ∨ y = 28) ∧ 3 * b ≤ z ∧ z < 3 * b + 3) ∨ ((y = 23 ∨ y = 24) ∧ 4 * b ≤ z ∧ z < 4 * b + 4))) → μ1 x y z = μ x y z
theorem ofT.rf (b : Nat) (μ : m_M) : ofT b μ μ := fun _ _ _ _ => rfl
theorem ofT.tr {b : Nat} {μ μ1 μ2 : m_M} (h : ofT b μ μ1) (h2 : ofT b μ1 μ2) : ofT b μ μ2 := fun x y z a => (h2 x y z a).trans (h x y z a)
theorem ofT.F {b : Nat} {μ μ1 : m_M} (h : ofF μ μ1) : ofT b μ μ1 := fun x y z a => h x y z (fun q => a ⟨q.1, Or.inl ⟨q.2.1, by omega⟩⟩)
theorem ofT.P {b : Nat} {μ μ1 : m_M} (h : ofP b μ μ1) : ofT b μ μ1 := fun x y z a => h x y z (by omega)
def MPd (μ : m_M) (b : Nat) (D : m_D) : Prop := (μ 34 15 b = (D.1.length : Int) ∧ ∀ i x, D.1[i]? = some x → μ 34 27 (8 * b + i) = (nm256 x.1 0 : Int) ∧ μ 34 16 (8 * b + i) = x.2.1 ∧ μ 34 17 (8 * b + i) = x.2.2) ∧ (μ 34 18 b = (D.2.1.length : Int) ∧ ∀ i x, D.2.1[i]? = some x → μ 34 28 (3 * b + i) = (nm256 x.1 0 : Int) ∧ μ 34 19 (3 * b + i) = x.2) ∧ (μ 34 20 b = D.2.2.1.1 ∧ μ 34 21 b = D.2.2.1.2.1 ∧ μ 34 22 b = D.2.2.1.2.2) ∧ ∀ q, q < 4 → (D.2.2.2 q = none → μ 34 23 (4 * b + q) = -1) ∧ ∀ y, D.2.2.2 q = some y → μ 34 23 (4 * b + q) = (y.1 : Int) ∧ μ 34 24 (4 * b + q) = ((y.1 + y.2 : Nat) : Int)
def WFm (D : m_D) : Prop := (D.1.length ≤ 8 ∧ ∀ x ∈ D.1, isNm x.1) ∧ (D.2.1.length ≤ 3 ∧ ∀ x ∈ D.2.1, isNm x.1)
/-- between statements, and within one that is not a formula's -/
def Mqs (T : Nat → Int) (L b : Nat) (μ0 : m_M) (e : Nat) (D : m_D) (CC : List Int) (μ : m_M) : Prop := (ofT b μ0 μ ∧ MBs T L μ ∧ MK T L μ e ∧ e ≤ L) ∧ (μ 34 0 8 = 0 ∧ μ 34 0 29 = (b : Int) ∧ b ≤ 1 ∧ μ 34 0 9 = -1) ∧ CDS b μ CC ∧ (MPd μ b D ∧ WFm D ∧ CC.length ≤ e)
def Mg (b : Nat) (μ0 : m_M) (k p : Int) (μ : m_M) : Prop := ofT b μ0 μ ∧ (μ 34 0 8 = k ∧ 0 < k ∧ μ 34 0 9 = p) ∧ μ 34 0 29 = (b : Int) ∧ b ≤ 1
def MOu {α : Type} (T : Nat → Int) (L b : Nat) (μ0 : m_M) (D : m_D) (CC : List Int) (μ : m_M) (r : PR α) : Prop := match r with
  | .inl x => Mg b μ0 x.1 x.2 μ
  | .inr y => Mqs T L b μ0 y.1 D CC μ
/-- what the reference is at behind a step -/
def MO (T : Nat → Int) (L b : Nat) (μ0 μ : m_M) (r : PR (m_D × List Int)) : Prop := match r with
  | .inl x => Mg b μ0 x.1 x.2 μ
  | .inr y => Mqs T L b μ0 y.1 y.2.1 y.2.2 μ
theorem CDS.cg {b : Nat} {μ μ1 : m_M} {CC : List Int} (h : CDS b μ CC) (h28 : μ1 34 0 28 = μ 34 0 28) (f : ∀ z, μ1 34 25 z = μ 34 25 z ∧ μ1 34 26 z = μ 34 26 z) : CDS b μ1 CC := by
  obtain ⟨a1, a2, a3⟩ := h
  refine ⟨by rw [h28]; exact a1, ?_, fun i b1 b2 => ?_⟩
  · rw [codeL_congr (g := fun k => tk (μ 34 25 k) (μ 34 26 k)) _ _ (fun i _ _ => by rw [(f i).1, (f i).2])]; exact a2
  · rw [(f i).1, (f i).2]; exact a3 i b1 b2
theorem MPd.cg {b : Nat} {μ μ1 : m_M} {D : m_D} (h : MPd μ b D) (f : ∀ y z, 15 ≤ y → y ≤ 28 → ¬ (y = 25 ∨ y = 26) → μ1 34 y z = μ 34 y z) : MPd μ1 b D := by
  obtain ⟨⟨a1, a2⟩, ⟨b1, b2⟩, ⟨c1, c2, c3⟩, d⟩ := h
  refine ⟨⟨by rw [f 15 b (by omega) (by omega) (by omega)]; exact a1, fun i x hx => ?_⟩, ⟨by rw [f 18 b (by omega) (by omega) (by omega)]; exact b1, fun i x hx => ?_⟩, ⟨by rw [f 20 b (by omega) (by omega) (by omega)]; exact c1, by rw [f 21 b (by omega) (by omega) (by omega)]; exact c2, by rw [f 22 b (by omega) (by omega) (by omega)]; exact c3⟩, fun q hq => ?_⟩
  · rw [f 27 _ (by omega) (by omega) (by omega), f 16 _ (by omega) (by omega) (by omega), f 17 _ (by omega) (by omega) (by omega)]; exact a2 i x hx
  · rw [f 28 _ (by omega) (by omega) (by omega), f 19 _ (by omega) (by omega) (by omega)]; exact b2 i x hx
  · rw [f 23 _ (by omega) (by omega) (by omega), f 24 _ (by omega) (by omega) (by omega)]; exact d q hq
section RS
variable {G : m_G} {T : Nat → Int} {L b e : Nat} {D : m_D} {CC : List Int} {μ0 : m_M}
theorem Mqs.F {μ μ1 : m_M} {e' : Nat} (h : Mqs T L b μ0 e D CC μ) (f : ofF μ μ1) (hM : MK T L μ1 e') (h8 : μ1 34 0 8 = 0) (h9 : μ1 34 0 9 = -1) (hle : e ≤ e') (hL : e' ≤ L) : Mqs T L b μ0 e' D CC μ1 := by
  obtain ⟨⟨hp, hB, _, he⟩, ⟨_, h29, hb, _⟩, hC, hP, hW, hl⟩ := h
  exact ⟨⟨hp.tr (ofT.F f), ⟨by rw [f 34 0 2 (by omega)]; exact hB.1, fun i hi => by rw [f 34 1 i (by omega)]; exact hB.2.1 i hi, hB.2.2⟩, hM, hL⟩, ⟨h8, by rw [f 34 0 29 (by omega)]; exact h29, hb, h9⟩, hC.cg (f 34 0 28 (by omega)) (fun z => ⟨f 34 25 z (by omega), f 34 26 z (by omega)⟩), hP.cg (fun y z a b c => f 34 y z (by omega)), hW, by omega⟩
theorem q_blame {d : Nat} {μ : m_M} (h : Mqs T L b μ0 e D CC μ) {a p : Int} (ha : 0 < a) {K : m_M → Prop} (k : ∀ μ1, ofF μ μ1 → Mg b μ0 a p μ1 → K μ1) : c_v G (d + 1) YX12_blame [vR 34 0, vI a, vI p] μ K := by
  refine EX12_blame ⟨fun _ μ1 e1 μ2 e2 => ?_, fun q => absurd (by rw [h.2.1.1]; decide) q⟩
  have f : ofF μ μ2 := fun x y z q => by rw [e2, m_up_ne _ _ (by omega), e1, m_up_ne _ _ (by omega)]
  exact k μ2 f ⟨h.1.1.tr (ofT.F f), ⟨by rw [e2, m_up_ne _ _ (by omega), e1, m_up_at], ha, by rw [e2, m_up_at]⟩, by rw [f 34 0 29 (by omega)]; exact h.2.1.2.1, h.2.1.2.2.1⟩
theorem Mg.n8 {μ : m_M} {k p : Int} (h : Mg b μ0 k p μ) : ¬ μ 34 0 8 = 0 := by rw [h.2.1.1]; have := h.2.1.2.1; omega
theorem Mg.g8 {μ : m_M} {k p : Int} (h : Mg b μ0 k p μ) : ¬ μ 34 0 8 ≤ 0 := by rw [h.2.1.1]; have := h.2.1.2.1; omega
theorem Mg.wr {μ μ1 : m_M} {k p : Int} (h : Mg b μ0 k p μ) (f : ofT b μ μ1) (f0 : ∀ z, z = 8 ∨ z = 9 ∨ z = 29 → μ1 34 0 z = μ 34 0 z) : Mg b μ0 k p μ1 := by
  refine ⟨h.1.tr f, ?_, ?_⟩
  · rw [f0 8 (by omega), f0 9 (by omega)]; exact h.2.1
  · rw [f0 29 (by omega)]; exact h.2.2
theorem g_blame {d : Nat} {μ : m_M} {k p : Int} (h : Mg b μ0 k p μ) {a p' : Int} {K : m_M → Prop} (kk : K μ) : c_v G (d + 1) YX12_blame [vR 34 0, vI a, vI p'] μ K := EX12_blame ⟨fun q => absurd q h.g8, fun _ => kk⟩
theorem q_lex {d : Nat} {μ : m_M} (h : Mqs T L b μ0 e D CC μ) {K : m_M → Prop} (k : tLf T L e = -1 → K μ) (kf : tLf T L e ≠ -1 → ∀ μ1, ofF μ μ1 → Mg b μ0 1 (tLf T L e) μ1 → K μ1) : c_v G (d + 2) YX12_lex [vR 34 0] μ K := by
  have h12 : μ 34 0 12 = tLf T L e := h.1.2.2.1.2.2.1
  refine EX12_lex ?_
  rw [h12]
  exact ⟨k, fun q => q_blame h (by decide) (kf q)⟩
theorem g_lex {d : Nat} {μ : m_M} {k p : Int} (h : Mg b μ0 k p μ) {K : m_M → Prop} (kk : K μ) : c_v G (d + 2) YX12_lex [vR 34 0] μ K := EX12_lex ⟨fun _ => kk, fun _ => g_blame h kk⟩
theorem q_ahead {d : Nat} {μ : m_M} (h : Mqs T L b μ0 e D CC μ) {K : m_M → Prop} (k : ∀ μ1, ofF μ μ1 → Mqs T L b μ0 (tEn T L e) D CC μ1 → K μ1) : c_v G (d + 2) YX12_ahead [vR 34 0] μ K := by
  have he := h.1.2.2.2
  have a1 := tAt_in (T := T) he
  have a2 := tEn_in (T := T) he
  exact mo_ahead h.1.2.1 a2.2.1 h.1.2.2.1.2.1 (fun μ1 f1 hM => k μ1 (ofF.K f1) (h.F (ofF.K f1) hM (by rw [f1 34 0 8 (by omega)]; exact h.2.1.1) (by rw [f1 34 0 9 (by omega)]; exact h.2.1.2.2.2) (by omega) a2.2.1))
theorem q_must_ {d : Nat} {μ : m_M} (h : Mqs T L b μ0 e D CC μ) (k : Nat) (hk : k < 26) {v tok : Int} (hv : v = own256.getD k 0) (ht : tok = 256 + (k : Int)) {K : m_M → Prop} (kk : ∀ μ1, ofF μ μ1 → MOu T L b μ0 D CC μ1 (sExp T L tok e) → K μ1) : c_v G (d + 3) YX12_must_ [vR 34 0, vJ v] μ K := by
  have h4 : μ 34 0 4 = (tAt T L e : Int) := h.1.2.2.1.1
  have h8 : μ 34 0 8 = 0 := h.2.1.1
  have kA : tLf T L e = -1 → tTk T L e = tok → ∀ μ1, ofF μ μ1 → Mqs T L b μ0 (tEn T L e) D CC μ1 → K μ1 := fun hf y μ1 f1 g1 => kk μ1 f1 (by unfold sExp; rw [if_neg (fun w => w hf), if_neg (fun w => w y)]; exact g1)
  have kB : tLf T L e = -1 → ¬ tTk T L e = tok → ∀ μ1, ofF μ μ1 → Mg b μ0 1 (tAt T L e : Int) μ1 → K μ1 := fun hf y μ1 f1 g1 => kk μ1 f1 (by unfold sExp; rw [if_neg (fun w => w hf), if_pos y]; exact g1)
  have kC : tLf T L e ≠ -1 → ∀ μ1, ofF μ μ1 → Mg b μ0 1 (tLf T L e) μ1 → K μ1 := fun hf μ1 f1 g1 => kk μ1 f1 (by unfold sExp; rw [if_pos hf]; exact g1)
  refine EX12_must_ (q_lex h (fun hf => ⟨fun _ => ?_, fun z => absurd (by rw [h8]; decide) z⟩) (fun hf μ1 f1 g1 => ⟨fun z => absurd z g1.g8, fun _ => kC hf μ1 f1 g1⟩))
  refine mo_wd (d := d + 1) h.1.2.1 h.1.2.2.2 h.1.2.2.1 hf k hk hv ?_
  rw [← ht, h4]
  exact ite1 (fun y => ⟨fun z => absurd h8 z, fun _ => q_ahead h (kA hf y)⟩) (fun y => q_blame h (by decide) (fun μ1 f1 g1 => ⟨fun _ => kB hf y μ1 f1 g1, fun z => absurd z g1.n8⟩))
theorem g_must_ {d : Nat} {μ : m_M} {k p v : Int} (h : Mg b μ0 k p μ) {K : m_M → Prop} (kk : K μ) : c_v G (d + 3) YX12_must_ [vR 34 0, vJ v] μ K := EX12_must_ (g_lex h ⟨fun z => absurd z h.g8, fun _ => kk⟩)
theorem q_number {d : Nat} {μ : m_M} (h : Mqs T L b μ0 e D CC μ) {lo hi : Int} {K : Int → m_M → Prop} (kk : ∀ r μ1, ofF μ μ1 → MOu T L b μ0 D CC μ1 (sNum T L lo hi e) → (∀ y, sNum T L lo hi e = .inr y → r = y.2) → K r μ1) : c_i G (d + 3) YX12_number [vR 34 0, vI lo, vI hi] μ K := by
  have h4 : μ 34 0 4 = (tAt T L e : Int) := h.1.2.2.1.1
  have h8 : μ 34 0 8 = 0 := h.2.1.1
  have bl : ∀ (x : Int × Int), sNum T L lo hi e = .inl x → ∀ r μ1, ofF μ μ1 → Mg b μ0 x.1 x.2 μ1 → K r μ1 := fun x hx r μ1 f1 g1 => kk r μ1 f1 (by rw [hx]; exact g1) (fun y hy => by rw [hx] at hy; cases hy)
  refine EX12_number (fun X C R => q_lex h (fun hf => ⟨fun _ => ?_, fun z => absurd (by rw [h8]; decide) z⟩) (fun hf μ1 f1 g1 => ⟨fun z => absurd z g1.g8, fun _ => bl (1, tLf T L e) (by unfold sNum; rw [if_pos hf]) 0 μ1 f1 g1⟩))
  have no : ¬ tTk T L e = 283 → c_v G (d + 2) YX12_blame [vR 34 0, vI 1, vI (μ 34 0 4)] μ (fun μ2 => mW G X YX12_number μ2 30 [some (vR 34 0), some (vI lo), some (vI hi), none] []) := fun y => by
    rw [h4]
    exact q_blame h (by decide) (fun μ1 f1 g1 => VX12_number_30 C R ⟨fun _ x1 e1 => ⟨fun _ => bl (1, (tAt T L e : Int)) (by unfold sNum; rw [if_neg (fun y => y hf), if_pos y]) x1 μ1 f1 g1, fun z => absurd z g1.n8⟩, fun z => absurd z g1.n8⟩)
  rcases mk_cases h.1.2.1 h.1.2.2.2 h.1.2.2.1 with ⟨_, h3, ht⟩ | ⟨_, _, h3, ht, _⟩ | ⟨_, h3, ht, hv⟩ | ⟨_, h3, h6, ht⟩
  · exact ⟨fun z => by omega, fun _ => no (by omega)⟩
  · exact ⟨fun z => by omega, fun _ => no (by omega)⟩
  · have v6 := (hv hf).1
    refine ⟨fun _ => VX12_number_30 C R ⟨fun z => absurd h8 z, fun _ => ?_⟩, fun z => absurd h3 z⟩
    rw [v6]
    have n2 : ¬ tTk T L e ≠ 283 := fun y => y ht
    have out : (tVal T L e < lo ∨ hi < tVal T L e) → c_v G (d + 2) YX12_blame [vR 34 0, vI 4, vI (μ 34 0 4)] μ (fun μ7 => ∀ x8 : Int, x8 = μ7 34 0 6 → ((¬ (μ7 34 0 8) = 0) → K x8 μ7) ∧ ((μ7 34 0 8 = 0) → c_v G (d + 2) YX12_ahead [vR 34 0] μ7 (fun μ9 => K x8 μ9))) := fun y => by
      rw [h4]
      exact q_blame h (by decide) (fun μ1 f1 g1 x8 e8 => ⟨fun _ => bl (4, (tAt T L e : Int)) (by unfold sNum; rw [if_neg (fun y => y hf), if_neg n2, if_pos y]) x8 μ1 f1 g1, fun z => absurd z g1.n8⟩)
    refine EX12_is ⟨fun y => ⟨z0, fun _ => out (Or.inl y)⟩, fun y => ⟨fun y2 => ⟨z0, fun _ => out (Or.inr y2)⟩, fun y2 => ⟨fun _ x5 e5 => ⟨fun z => absurd h8 z, fun _ => q_ahead h (fun μ1 f1 g1 => ?_)⟩, z1⟩⟩⟩
    have sn : sNum T L lo hi e = .inr (tEn T L e, tVal T L e) := by unfold sNum; rw [if_neg (fun y => y hf), if_neg n2, if_neg (by omega)]
    rw [e5]
    exact kk _ μ1 f1 (by rw [sn]; exact g1) (fun y hy => by rw [sn] at hy; cases hy; exact v6)
  · exact ⟨fun z => by omega, fun _ => no (by omega)⟩
theorem g_number {d : Nat} {μ : m_M} {k p lo hi : Int} (h : Mg b μ0 k p μ) {K : Int → m_M → Prop} (kk : K 0 μ) : c_i G (d + 3) YX12_number [vR 34 0, vI lo, vI hi] μ K := EX12_number (fun X C R => g_lex h ⟨fun z => absurd z h.g8, fun _ => kk⟩)
/-- the reference knows the names -/
theorem q_named {d : Nat} {μ : m_M} (h : Mqs T L b μ0 e D CC μ) {n : List Nat} (hn : isNm n) {K : Int → m_M → Prop} (kk : K (if dHas D n then 1 else 0) μ) : c_i G (d + 1) YX12_isNamed [vR 34 0, vJ (nm256 n 0 : Int)] μ K := by
  have h29 : μ 34 0 29 = (b : Int) := h.2.1.2.1
  have hb := h.2.1.2.2.1
  obtain ⟨⟨a1, a2⟩, ⟨b1, b2⟩, _⟩ := h.2.2.2.1
  obtain ⟨⟨w1, w2⟩, ⟨w3, w4⟩⟩ := h.2.2.2.2.1
  refine EX12_isNamed (fun X C R => ?_)
  have i8 : ∀ i : Nat, i < 8 → w32 (w32 (8 * (b : Int)) + (i : Int)) = ((8 * b + i : Nat) : Int) := fun i hi => by rw [w32_le (z := 8 * (b : Int)) (by omega) (by omega), w32_le (by omega) (by omega)]; omega
  have i3 : ∀ i : Nat, i < 3 → w32 (w32 (3 * (b : Int)) + (i : Int)) = ((3 * b + i : Nat) : Int) := fun i hi => by rw [w32_le (z := 3 * (b : Int)) (by omega) (by omega), w32_le (by omega) (by omega)]; omega
  have at44 : (D.1.any (fun x => x.1 == n)) = false → ∀ (r i : Nat), i + r = D.2.1.length → (∀ j x, j < i → D.2.1[j]? = some x → ¬ x.1 = n) → mW G X YX12_isNamed μ 44 [some (vR 34 0), some (vJ (nm256 n 0 : Int)), none, some (vI (i : Int))] [] := by
    intro hno r
    induction r with
    | zero =>
      intro i hi hj
      refine VX12_isNamed_44 C R ?_
      rw [h29, Int.toNat_natCast, b1]
      refine ⟨⟨by omega, by omega⟩, fun _ => ?_, fun z => absurd (by omega) z⟩
      have : dHas D n = false := by
        unfold dHas
        rw [hno, Bool.false_or]
        apply Bool.eq_false_iff.2
        intro y
        obtain ⟨x, hx, hxe⟩ := List.any_eq_true.1 y
        obtain ⟨j, hj2, hj3⟩ := List.getElem_of_mem hx
        exact hj j x (by omega) (by rw [List.getElem?_eq_getElem hj2, hj3]) (beq_iff_eq.1 hxe)
      rw [this] at kk
      exact kk
    | succ r ih =>
      intro i hi hj
      have hil : i < D.2.1.length := by omega
      have hx := b2 i D.2.1[i] (List.getElem?_eq_getElem hil)
      have hm : D.2.1[i] ∈ D.2.1 := List.getElem_mem hil
      refine VX12_isNamed_44 C R ?_
      rw [h29, Int.toNat_natCast, b1, i3 i (by omega), Int.toNat_natCast, hx.1]
      refine ⟨⟨by omega, by omega⟩, fun z => absurd z (by omega), fun _ => ⟨⟨by omega, by omega⟩, fun z x1 e1 => ?_, fun z => ?_⟩⟩
      · rw [w32_s (by omega)] at e1
        subst e1
        refine ih (i + 1) (by omega) (fun j x hj1 hj2 => ?_)
        by_cases y : j < i
        · exact hj j x y hj2
        · have : j = i := by omega
          subst this
          rw [List.getElem?_eq_getElem hil] at hj2
          cases hj2
          intro w
          exact z (l_cmp_eq.2 (by rw [w]))
      · have en : D.2.1[i].1 = n := nm256_inj (w4 _ hm) hn (by have := l_cmp_eq.1 z; omega)
        have : dHas D n = true := by
          unfold dHas
          rw [Bool.or_eq_true]
          exact Or.inr (List.any_eq_true.2 ⟨_, hm, beq_iff_eq.2 en⟩)
        rw [this] at kk
        exact kk
  have at2 : ∀ (r i : Nat), i + r = D.1.length → (∀ j x, j < i → D.1[j]? = some x → ¬ x.1 = n) → mW G X YX12_isNamed μ 2 [some (vR 34 0), some (vJ (nm256 n 0 : Int)), none, some (vI (i : Int))] [] := by
    intro r
    induction r with
    | zero =>
      intro i hi hj
      refine VX12_isNamed_2 C R ?_
      rw [h29, Int.toNat_natCast, a1]
      refine ⟨⟨by omega, by omega⟩, fun _ => at44 ?_ D.2.1.length 0 (by omega) (fun j x z => by omega), fun z => absurd (by omega) z⟩
      apply Bool.eq_false_iff.2
      intro y
      obtain ⟨x, hx, hxe⟩ := List.any_eq_true.1 y
      obtain ⟨j, hj2, hj3⟩ := List.getElem_of_mem hx
      exact hj j x (by omega) (by rw [List.getElem?_eq_getElem hj2, hj3]) (beq_iff_eq.1 hxe)
    | succ r ih =>
      intro i hi hj
      have hil : i < D.1.length := by omega
      have hx := a2 i D.1[i] (List.getElem?_eq_getElem hil)
      have hm : D.1[i] ∈ D.1 := List.getElem_mem hil
      refine VX12_isNamed_2 C R ?_
      rw [h29, Int.toNat_natCast, a1, i8 i (by omega), Int.toNat_natCast, hx.1]
      refine ⟨⟨by omega, by omega⟩, fun z => absurd z (by omega), fun _ => ⟨⟨by omega, by omega⟩, fun z x1 e1 => ?_, fun z => ?_⟩⟩
      · rw [w32_s (by omega)] at e1
        subst e1
        refine ih (i + 1) (by omega) (fun j x hj1 hj2 => ?_)
        by_cases y : j < i
        · exact hj j x y hj2
        · have : j = i := by omega
          subst this
          rw [List.getElem?_eq_getElem hil] at hj2
          cases hj2
          intro w
          exact z (l_cmp_eq.2 (by rw [w]))
      · have en : D.1[i].1 = n := nm256_inj (w2 _ hm) hn (by have := l_cmp_eq.1 z; omega)
        have : dHas D n = true := by
          unfold dHas
          rw [Bool.or_eq_true]
          exact Or.inl (List.any_eq_true.2 ⟨_, hm, beq_iff_eq.2 en⟩)
        rw [this] at kk
        exact kk
  exact at2 D.1.length 0 (by omega) (fun j x z => by omega)
theorem q_own {d : Nat} {μ : m_M} {n : List Nat} (hn : isNm n) {K : Int → m_M → Prop} (k0 : tokV (nm27 n 5) = 282 → K 0 μ) (k1 : tokV (nm27 n 5) ≠ 282 → K 1 μ) : c_i G (d + 1) YX12_isOwn [vR 34 0, vJ (nm256 n 0 : Int)] μ K := by
  have hit : ∀ k : Nat, k < 26 → l_cmp (nm256 n 0 : Int) (own256.getD k 0) = 0 → K 1 μ := fun k hk z => k1 (by rw [(tok_256 hn hk).1 (l_cmp_eq.1 z)]; omega)
  have miss : (∀ k : Nat, k < 26 → ¬ l_cmp (nm256 n 0 : Int) (own256.getD k 0) = 0) → K 0 μ := fun hk => by
    refine k0 ?_
    have ti := tokV_in (nm27 n 5)
    by_cases y : tokV (nm27 n 5) = 282
    · exact y
    · obtain ⟨k, hke⟩ : ∃ k : Nat, tokV (nm27 n 5) = 256 + (k : Int) := ⟨(tokV (nm27 n 5) - 256).toNat, by omega⟩
      have hk26 : k < 26 := by omega
      exact absurd (l_cmp_eq.2 ((tok_256 hn hk26).2 hke)) (hk k hk26)
  refine EX12_isOwn ?_
  refine ⟨fun z => hit 0 (by decide) z, fun n0 => ?_⟩
  refine ⟨fun z => hit 1 (by decide) z, fun n1 => ?_⟩
  refine ⟨fun z => hit 2 (by decide) z, fun n2 => ?_⟩
  refine ⟨fun z => hit 3 (by decide) z, fun n3 => ?_⟩
  refine ⟨fun n4 => ?_, fun z => hit 4 (by decide) z⟩
  refine ⟨fun z => hit 5 (by decide) z, fun n5 => ?_⟩
  refine ⟨fun z => hit 6 (by decide) z, fun n6 => ?_⟩
  refine ⟨fun z => hit 7 (by decide) z, fun n7 => ?_⟩
  refine ⟨fun z => hit 8 (by decide) z, fun n8 => ?_⟩
  refine ⟨fun n9 => ?_, fun z => hit 9 (by decide) z⟩
  refine ⟨fun z => hit 10 (by decide) z, fun n10 => ?_⟩
  refine ⟨fun z => hit 11 (by decide) z, fun n11 => ?_⟩
  refine ⟨fun z => hit 12 (by decide) z, fun n12 => ?_⟩
  refine ⟨fun z => hit 13 (by decide) z, fun n13 => ?_⟩
  refine ⟨fun n14 => ?_, fun z => hit 14 (by decide) z⟩
  refine ⟨fun z => hit 15 (by decide) z, fun n15 => ?_⟩
  refine ⟨fun z => hit 16 (by decide) z, fun n16 => ?_⟩
  refine ⟨fun z => hit 17 (by decide) z, fun n17 => ?_⟩
  refine ⟨fun z => hit 18 (by decide) z, fun n18 => ?_⟩
  refine ⟨fun n19 => ?_, fun z => hit 19 (by decide) z⟩
  refine ⟨fun z => hit 20 (by decide) z, fun n20 => ?_⟩
  refine ⟨fun z => hit 21 (by decide) z, fun n21 => ?_⟩
  refine ⟨fun z => hit 22 (by decide) z, fun n22 => ?_⟩
  refine ⟨fun z => hit 23 (by decide) z, fun n23 => ?_⟩
  refine ⟨fun n24 => ?_, fun z => hit 24 (by decide) z⟩
  refine ⟨fun n25 => miss (fun k hk => ?_), fun z => hit 25 (by decide) z⟩
  have hc : k = 0 ∨ k = 1 ∨ k = 2 ∨ k = 3 ∨ k = 4 ∨ k = 5 ∨ k = 6 ∨ k = 7 ∨ k = 8 ∨ k = 9 ∨ k = 10 ∨ k = 11 ∨ k = 12 ∨ k = 13 ∨ k = 14 ∨ k = 15 ∨ k = 16 ∨ k = 17 ∨ k = 18 ∨ k = 19 ∨ k = 20 ∨ k = 21 ∨ k = 22 ∨ k = 23 ∨ k = 24 ∨ k = 25 := by omega
  rcases hc with y | y | y | y | y | y | y | y | y | y | y | y | y | y | y | y | y | y | y | y | y | y | y | y | y | y
  · subst y; exact n0
  · subst y; exact n1
  · subst y; exact n2
  · subst y; exact n3
  · subst y; exact n4
  · subst y; exact n5
  · subst y; exact n6
  · subst y; exact n7
  · subst y; exact n8
  · subst y; exact n9
  · subst y; exact n10
  · subst y; exact n11
  · subst y; exact n12
  · subst y; exact n13
  · subst y; exact n14
  · subst y; exact n15
  · subst y; exact n16
  · subst y; exact n17
  · subst y; exact n18
  · subst y; exact n19
  · subst y; exact n20
  · subst y; exact n21
  · subst y; exact n22
  · subst y; exact n23
  · subst y; exact n24
  · subst y; exact n25
theorem q_fresh {d : Nat} {μ : m_M} (h : Mqs T L b μ0 e D CC μ) {K : Int → m_M → Prop} (kk : ∀ r μ1, ofF μ μ1 → MOu T L b μ0 D CC μ1 (sName T L D e) → (∀ y, sName T L D e = .inr y → r = (nm256 y.2 0 : Int) ∧ isNm y.2) → K r μ1) : c_l G (d + 3) YX12_fresh [vR 34 0] μ K := by
  have h4 : μ 34 0 4 = (tAt T L e : Int) := h.1.2.2.1.1
  have h8 : μ 34 0 8 = 0 := h.2.1.1
  have bl : ∀ (x : Int × Int), sName T L D e = .inl x → ∀ r μ1, ofF μ μ1 → Mg b μ0 x.1 x.2 μ1 → K r μ1 := fun x hx r μ1 f1 g1 => kk r μ1 f1 (by rw [hx]; exact g1) (fun y hy => by rw [hx] at hy; cases hy)
  refine EX12_fresh (fun X C R => q_lex h (fun hf => ⟨fun _ => ?_, fun z => absurd (by rw [h8]; decide) z⟩) (fun hf μ1 f1 g1 => ⟨fun z => absurd z g1.g8, fun _ => bl (1, tLf T L e) (by unfold sName; rw [if_pos hf]) 0 μ1 f1 g1⟩))
  have no : ¬ tTk T L e = 282 → mW G X YX12_fresh μ 32 [some (vR 34 0), none, none] [] := fun y => by
    refine VX12_fresh_32 C R ?_
    rw [h4]
    exact q_blame h (by decide) (fun μ1 f1 g1 => VX12_fresh_41 C R ⟨fun _ x1 e1 => ⟨fun _ => bl (1, (tAt T L e : Int)) (by unfold sName; rw [if_neg (fun y => y hf), if_pos y]) x1 μ1 f1 g1, fun z => absurd z g1.n8⟩, fun z => absurd z g1.n8⟩)
  rcases mk_cases h.1.2.1 h.1.2.2.2 h.1.2.2.1 with ⟨_, h3, ht⟩ | ⟨_, _, h3, ht, hw⟩ | ⟨_, h3, ht, _⟩ | ⟨_, h3, h6, ht⟩
  · exact ⟨fun _ => no (by omega), fun z => by omega⟩
  · obtain ⟨h7, _, hn, te⟩ := hw hf
    refine ⟨fun z => absurd h3 z, fun _ => ?_⟩
    rw [h7]
    refine q_own hn (fun y => ⟨fun _ => VX12_fresh_41 C R ⟨fun z => absurd h8 z, fun _ => ?_⟩, z0⟩) (fun y => ⟨z1, fun _ => no (by rw [te]; exact y)⟩)
    rw [h7]
    have n2 : ¬ tTk T L e ≠ 282 := fun w => w (by rw [te]; exact y)
    refine q_named h hn ?_
    by_cases hd : dHas D (tNm T L e) = true
    · rw [if_pos hd, h4]
      exact ⟨z1, fun _ => q_blame h (by decide) (fun μ1 f1 g1 x8 e8 => ⟨fun _ => bl (2, (tAt T L e : Int)) (by unfold sName; rw [if_neg (fun y => y hf), if_neg n2, if_pos hd]) x8 μ1 f1 g1, fun z => absurd z g1.n8⟩)⟩
    · rw [if_neg hd]
      refine ⟨fun _ x5 e5 => ⟨fun z => absurd h8 z, fun _ => q_ahead h (fun μ1 f1 g1 => ?_)⟩, z0⟩
      have sn : sName T L D e = .inr (tEn T L e, tNm T L e) := by unfold sName; rw [if_neg (fun y => y hf), if_neg n2, if_neg hd]
      rw [e5, h7]
      exact kk _ μ1 f1 (by rw [sn]; exact g1) (fun y hy => by rw [sn] at hy; cases hy; exact ⟨rfl, hn⟩)
  · exact ⟨fun _ => no (by omega), fun z => by omega⟩
  · exact ⟨fun _ => no (by omega), fun z => by omega⟩
theorem g_fresh {d : Nat} {μ : m_M} {k p : Int} (h : Mg b μ0 k p μ) {K : Int → m_M → Prop} (kk : K 0 μ) : c_l G (d + 3) YX12_fresh [vR 34 0] μ K := EX12_fresh (fun X C R => g_lex h ⟨fun z => absurd z h.g8, fun _ => kk⟩)
theorem q_counts0 {d : Nat} {μ : m_M} (h : Mqs T L b μ0 e D CC μ) {K : Int → m_M → Prop} (k : ∀ μ1, ofF μ μ1 → Mqs T L b μ0 (tEn T L e) D CC μ1 → K 1 μ1) : c_i G (d + 3) YX12_counts [vR 34 0, vI 0] μ K := by
  have h8 : μ 34 0 8 = 0 := h.2.1.1
  exact EX12_counts ⟨fun z => absurd h8 z, fun _ => ⟨fun _ => ⟨fun z => absurd h8 z, fun _ => q_ahead h (fun μ1 f1 g1 => ⟨fun z => absurd g1.2.1.1 z, fun _ => k μ1 f1 g1⟩)⟩, fun z => absurd rfl z⟩⟩
theorem q_counts1 {d : Nat} {μ : m_M} (h : Mqs T L b μ0 e D CC μ) {K : Int → m_M → Prop} (k : ∀ μ1, ofF μ μ1 → Mg b μ0 6 (tAt T L e : Int) μ1 → K 0 μ1) : c_i G (d + 3) YX12_counts [vR 34 0, vI 1] μ K := by
  have h8 : μ 34 0 8 = 0 := h.2.1.1
  have h4 : μ 34 0 4 = (tAt T L e : Int) := h.1.2.2.1.1
  refine EX12_counts ⟨fun z => absurd h8 z, fun _ => ⟨fun z => absurd z (by decide), fun _ => ?_⟩⟩
  rw [h4]
  exact q_blame h (by decide) (fun μ1 f1 g1 => ⟨fun _ => ⟨fun _ => k μ1 f1 g1, fun z => absurd z g1.n8⟩, fun z => absurd z g1.n8⟩)
end RS
