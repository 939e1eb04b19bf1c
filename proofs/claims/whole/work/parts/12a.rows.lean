/-! ===== rows of a bench, the best of them ===== -/
theorem m_cnt_0 {f : Nat → Bool} : ∀ (r i : Nat), (∀ j, i ≤ j → j < i + r → f j = false) → m_cnt f i r = 0 := by
  intro r
  induction r with
  | zero => intro i _; rfl
  | succ r ih =>
    intro i h
    unfold m_cnt
    rw [h i (by omega) (by omega), ih (i + 1) (fun j h1 h2 => h j (by omega) (by omega))]
    rfl
theorem m_cnt_rm {f g : Nat → Bool} {c : Nat} (hf : f c = true) (hg : g c = false) : ∀ (r i : Nat), i ≤ c → c < i + r → (∀ j, i ≤ j → j < i + r → j ≠ c → g j = f j) → m_cnt f i r = m_cnt g i r + 1 := by
  intro r
  induction r with
  | zero => intro i h1 h2; omega
  | succ r ih =>
    intro i h1 h2 he
    unfold m_cnt
    by_cases q : i = c
    · subst q
      rw [hf, hg, m_cnt_congr (p := g) (q := f) r (i + 1) (fun j h1 h2 => he j (by omega) (by omega) (by omega))]
      simp
      omega
    · rw [ih (i + 1) (by omega) (by omega) (fun j h1 h2 h3 => he j (by omega) (by omega) h3), he i (by omega) (by omega) q]
      omega
def ws (f : Nat → Bool) (m : Nat → Int) : Nat → Int
  | 0 => 0
  | n + 1 => ws f m n + (if f n then m n else 0)
theorem ws_0 {f : Nat → Bool} {m : Nat → Int} : ∀ n, (∀ j, j < n → f j = false) → ws f m n = 0 := by
  intro n
  induction n with
  | zero => intro _; rfl
  | succ n ih =>
    intro h
    unfold ws
    rw [ih (fun j hj => h j (by omega)), h n (by omega)]
    rfl
theorem ws_congr {f g : Nat → Bool} {m : Nat → Int} : ∀ n, (∀ j, j < n → g j = f j) → ws g m n = ws f m n := by
  intro n
  induction n with
  | zero => intro _; rfl
  | succ n ih =>
    intro h
    unfold ws
    rw [ih (fun j hj => h j (by omega)), h n (by omega)]
theorem ws_rm {f g : Nat → Bool} {m : Nat → Int} {c : Nat} (hf : f c = true) (hg : g c = false) : ∀ n, c < n → (∀ j, j < n → j ≠ c → g j = f j) → ws f m n = ws g m n + m c := by
  intro n
  induction n with
  | zero => intro h; omega
  | succ n ih =>
    intro h he
    unfold ws
    by_cases q : n = c
    · subst q
      rw [hf, hg, ws_congr n (fun j hj => he j (by omega) (by omega))]
      simp
    · rw [ih (by omega) (fun j hj h3 => he j (by omega) h3), he n (by omega) q]
      omega
/-- who waits behind the first p places -/
noncomputable def wf (B : Nat → Nat → Int) (kn : Nat) (row : Nat → Int) (p c : Nat) : Bool := bl (B 3 c = (kn : Int) ∧ ∀ q, q < p → row q ≠ (c : Int))
theorem bl_iff {P : Prop} : bl P = true ↔ P := by
  constructor
  · intro h
    apply Classical.byContradiction
    intro hn
    rw [bl_f hn] at h
    exact absurd h (by decide)
  · exact bl_t
theorem bl_eq {P Q : Prop} (h : P ↔ Q) : bl P = bl Q := by rw [propext h]
theorem wf_s {B : Nat → Nat → Int} {kn : Nat} {row : Nat → Int} {p c : Nat} (h : row p ≠ (c : Int)) : wf B kn row (p + 1) c = wf B kn row p c := by
  unfold wf
  refine bl_eq ⟨fun z => ⟨z.1, fun q hq => z.2 q (by omega)⟩, fun z => ⟨z.1, fun q hq => ?_⟩⟩
  by_cases y : q = p
  · rw [y]; exact h
  · exact z.2 q (by omega)
theorem wf_no {B : Nat → Nat → Int} {kn : Nat} {row : Nat → Int} {p c : Nat} (h : row p = (c : Int)) : wf B kn row (p + 1) c = false := by
  unfold wf
  exact bl_f (fun z => z.2 p (by omega) h)
theorem wf_congr {B : Nat → Nat → Int} {kn : Nat} {row row' : Nat → Int} {p c : Nat} (h : ∀ q, q < p → row' q = row q) : wf B kn row' p c = wf B kn row p c := by
  unfold wf
  exact bl_eq ⟨fun z => ⟨z.1, fun q hq => by rw [← h q hq]; exact z.2 q hq⟩, fun z => ⟨z.1, fun q hq => by rw [h q hq]; exact z.2 q hq⟩⟩
section RO
variable {A : m_T} {B : Nat → Nat → Int} {kn rm : Nat} {w h : Int} {row row' : Nat → Int}
theorem isArr.congr (e : ∀ p, p < rm → row' p = row p) (hr : isArr B kn rm row) : isArr B kn rm row' := by
  obtain ⟨h1, h2, h3⟩ := hr
  refine ⟨fun p hp => by rw [e p hp]; exact h1 p hp, fun c hc hk => ?_, fun p q hp hq => by rw [e p hp, e q hq]; exact h3 p q hp hq⟩
  obtain ⟨p, hp, y⟩ := h2 c hc hk
  exact ⟨p, hp, by rw [e p hp]; exact y⟩
theorem isArr.cnt (hr : isArr B kn rm row) : ∀ r p, p + r = rm → m_cnt (wf B kn row p) 0 8 = m_cnt (fun q => row q != -1) p r := by
  obtain ⟨h1, h2, h3⟩ := hr
  intro r
  induction r with
  | zero =>
    intro p hp
    show _ = 0
    refine m_cnt_0 8 0 (fun c _ hc => bl_f (fun z => ?_))
    obtain ⟨q, hq, y⟩ := h2 c (by omega) z.1
    exact z.2 q (by omega) y
  | succ r ih =>
    intro p hp
    have ih := ih (p + 1) (by omega)
    show _ = (if (row p != -1) = true then 1 else 0) + m_cnt (fun q => row q != -1) (p + 1) r
    rcases h1 p (by omega) with y | ⟨c, hc, y, hk⟩
    · have : (row p != -1) = false := by simp [y]
      rw [this, ← ih]
      simp
      exact m_cnt_congr 8 0 (fun j _ _ => (wf_s (by omega)).symm)
    · have : (row p != -1) = true := by simp [y]
      rw [this, ← ih]
      have := m_cnt_rm (f := wf B kn row p) (g := wf B kn row (p + 1)) (c := c) (bl_t ⟨hk, fun q hq z => by have := h3 q p (by omega) (by omega) (z.trans y.symm) (by omega); omega⟩) (wf_no y) 8 0 (by omega) (by omega) (fun j _ _ hj => wf_s (by omega))
      simp
      omega
theorem isArr.fit (hr : isArr B kn rm row) {p : Nat} (hp : p ≤ rm) : m_cnt (wf B kn row p) 0 8 ≤ rm - p := by
  rw [hr.cnt (rm - p) p (by omega)]
  exact m_cnt_le _ _ _
theorem isArr.fit1 (hr : isArr B kn rm row) {p : Nat} (hp : p < rm) (h0 : row p = -1) : m_cnt (wf B kn row p) 0 8 < rm - p := by
  have := hr.fit (p := p + 1) (by omega)
  have e : m_cnt (wf B kn row p) 0 8 = m_cnt (wf B kn row (p + 1)) 0 8 := m_cnt_congr 8 0 (fun j _ _ => (wf_s (by omega)).symm)
  omega
theorem sum_bd (hr : isArr B kn rm row) (hok : rowOK A w h rm row) {m : Nat → Int} (hm : ∀ c, c < 8 → B 3 c = (kn : Int) → ∀ q : Nat, q < rm → p_crk A c h q w = false → p_ring A c h q w ≤ m c) : ∀ r p, p + r = rm → rowSum A w h row rm ≤ rowSum A w h row p + ws (wf B kn row p) m 8 := by
  obtain ⟨h1, h2, h3⟩ := hr
  intro r
  induction r with
  | zero =>
    intro p hp
    have e : ws (wf B kn row p) m 8 = 0 := ws_0 8 (fun c hc => bl_f (fun z => by
      obtain ⟨q, hq, y⟩ := h2 c (by omega) z.1
      exact z.2 q (by omega) y))
    rw [e, show p = rm by omega]
    omega
  | succ r ih =>
    intro p hp
    have ih := ih (p + 1) (by omega)
    have hs : rowSum A w h row (p + 1) = rowSum A w h row p + (if row p = -1 then 0 else p_ring A (row p).toNat h p w) := rfl
    rcases h1 p (by omega) with y | ⟨c, hc, y, hk⟩
    · rw [hs, if_pos y] at ih
      have e : ws (wf B kn row p) m 8 = ws (wf B kn row (p + 1)) m 8 := ws_congr 8 (fun j _ => (wf_s (show row p ≠ (j : Int) by omega)).symm)
      rw [e]
      omega
    · have hcr := (hok p (by omega) (by omega)).1
      rw [y, Int.toNat_natCast] at hcr
      rw [hs, if_neg (by omega), y, Int.toNat_natCast] at ih
      have := ws_rm (f := wf B kn row p) (g := wf B kn row (p + 1)) (m := m) (c := c) (bl_t ⟨hk, fun q hq z => by have := h3 q p (by omega) (by omega) (z.trans y.symm) (by omega); omega⟩) (wf_no y) 8 (by omega) (fun j _ hj => wf_s (by omega))
      have := hm c hc hk p (by omega) hcr
      omega
theorem lexle.anti (h1 : lexle rm row row') (h2 : lexle rm row' row) : ∀ p, p < rm → row p = row' p := by
  rcases h1 with h1 | ⟨p, hp, e1, l1⟩
  · exact h1
  · rcases h2 with h2 | ⟨q, hq, e2, l2⟩
    · have := h2 p hp; omega
    · by_cases y : p < q
      · have := e2 p y; omega
      · by_cases y2 : q < p
        · have := e1 q y2; omega
        · have : p = q := by omega
          subst this; omega
theorem lexle.rf (row : Nat → Int) : lexle rm row row := Or.inl (fun _ _ => rfl)
theorem lexle.congr {r2 r2' : Nat → Int} (e : ∀ p, p < rm → r2 p = row p) (e' : ∀ p, p < rm → r2' p = row' p) (hl : lexle rm row row') : lexle rm r2 r2' := by
  rcases hl with hl | ⟨p, hp, e1, l1⟩
  · exact Or.inl (fun p hp => by rw [e p hp, e' p hp]; exact hl p hp)
  · exact Or.inr ⟨p, hp, fun q hq => by rw [e q (by omega), e' q (by omega)]; exact e1 q hq, by rw [e p hp, e' p hp]; exact l1⟩
end RO
/-- what a search over a set of rows does to the best so far: (heat, sum, what is to be beaten, row) -/
def PO (A : m_T) (w h : Int) (rm : Nat) (S : (Nat → Int) → Prop) (x x' : Int × Int × Int × (Nat → Int)) : Prop :=
  ((∀ row', S row' → rowSum A w h row' rm ≤ x.2.2.1) ∧ x'.1 = x.1 ∧ x'.2.1 = x.2.1 ∧ x'.2.2.1 = x.2.2.1 ∧ ∀ q, q < rm → x'.2.2.2 q = x.2.2.2 q)
  ∨ (∃ row, S row ∧ (∀ q, q < rm → x'.2.2.2 q = row q) ∧ x'.1 = h ∧ x'.2.1 = rowSum A w h row rm ∧ x'.2.2.1 = rowSum A w h row rm ∧ x.2.2.1 < rowSum A w h row rm ∧ ∀ row', S row' → rowSum A w h row' rm < rowSum A w h row rm ∨ (rowSum A w h row' rm = rowSum A w h row rm ∧ lexle rm row row'))
section PO1
variable {A : m_T} {w h : Int} {rm : Nat} {S S1 S2 : (Nat → Int) → Prop} {x x1 x2 : Int × Int × Int × (Nat → Int)}
theorem PO.none (hS : ∀ row', S row' → rowSum A w h row' rm ≤ x.2.2.1) : PO A w h rm S x x := Or.inl ⟨hS, rfl, rfl, rfl, fun _ _ => rfl⟩
theorem PO.sub (e : ∀ row, S1 row ↔ S2 row) (hp : PO A w h rm S1 x x1) : PO A w h rm S2 x x1 := by
  rcases hp with ⟨a, b⟩ | ⟨row, a, b1, b2, b3, b4, b5, c⟩
  · exact Or.inl ⟨fun r hr => a r ((e r).mpr hr), b⟩
  · exact Or.inr ⟨row, (e row).mp a, b1, b2, b3, b4, b5, fun r hr => c r ((e r).mpr hr)⟩
theorem PO.seq (h1 : PO A w h rm S1 x x1) (h2 : PO A w h rm S2 x1 x2) (hl : ∀ r1 r2, S1 r1 → S2 r2 → lexle rm r1 r2) : PO A w h rm (fun r => S1 r ∨ S2 r) x x2 := by
  rcases h1 with ⟨a, a1, a2, a3, a4⟩ | ⟨r1, b, b1, b2, b3, b4, b5, b6⟩
  · rcases h2 with ⟨c, c1, c2, c3, c4⟩ | ⟨r2, e, e1, e2, e3, e4, e5, e6⟩
    · refine Or.inl ⟨fun r hr => ?_, c1.trans a1, c2.trans a2, c3.trans a3, fun q hq => (c4 q hq).trans (a4 q hq)⟩
      rcases hr with hr | hr
      · exact a r hr
      · rw [← a3]; exact c r hr
    · refine Or.inr ⟨r2, Or.inr e, e1, e2, e3, e4, by rw [← a3]; exact e5, fun r hr => ?_⟩
      rcases hr with hr | hr
      · have := a r hr
        rw [a3] at e5
        exact Or.inl (by omega)
      · exact e6 r hr
  · rcases h2 with ⟨c, c1, c2, c3, c4⟩ | ⟨r2, e, e1, e2, e3, e4, e5, e6⟩
    · refine Or.inr ⟨r1, Or.inl b, fun q hq => (c4 q hq).trans (b1 q hq), c1.trans b2, c2.trans b3, c3.trans b4, b5, fun r hr => ?_⟩
      rcases hr with hr | hr
      · exact b6 r hr
      · have := c r hr
        rw [b4] at this
        by_cases y : rowSum A w h r rm = rowSum A w h r1 rm
        · exact Or.inr ⟨y, hl r1 r b hr⟩
        · exact Or.inl (by omega)
    · rw [b4] at e5
      refine Or.inr ⟨r2, Or.inr e, e1, e2, e3, e4, by omega, fun r hr => ?_⟩
      rcases hr with hr | hr
      · have := b6 r hr
        exact Or.inl (by rcases this with z | ⟨z, -⟩ <;> omega)
      · exact e6 r hr
end PO1
/-- the best over some heats: none, or this one -/
def BS (A : m_T) (B : Nat → Nat → Int) (kn rm : Nat) (w : Int) (H : Int → Prop) (hb s : Int) (row : Nat → Int) : Prop :=
  (hb = -1 ∧ ∀ heat row', H heat → isArr B kn rm row' → ¬ rowOK A w heat rm row') ∨
  (H hb ∧ 0 ≤ hb ∧ isArr B kn rm row ∧ rowOK A w hb rm row ∧ rowSum A w hb row rm = s ∧ ∀ heat row', H heat → isArr B kn rm row' → rowOK A w heat rm row' → rowSum A w heat row' rm < s ∨ (rowSum A w heat row' rm = s ∧ (hb < heat ∨ (hb = heat ∧ lexle rm row row'))))
theorem BS.uniq {A : m_T} {B : Nat → Nat → Int} {kn rm : Nat} {w : Int} {H : Int → Prop} {hb s hb2 s2 : Int} {row row2 : Nat → Int} (h1 : BS A B kn rm w H hb s row) (h2 : BS A B kn rm w H hb2 s2 row2) : hb = hb2 ∧ (hb ≠ -1 → s = s2 ∧ ∀ p, p < rm → row p = row2 p) := by
  rcases h1 with ⟨a, a1⟩ | ⟨b, b0, b1, b2, b3, b4⟩
  · rcases h2 with ⟨c, -⟩ | ⟨e, e0, e1, e2, -⟩
    · exact ⟨a.trans c.symm, fun z => absurd a z⟩
    · exact absurd e2 (a1 _ _ e e1)
  · rcases h2 with ⟨c, c1⟩ | ⟨e, e0, e1, e2, e3, e4⟩
    · exact absurd b2 (c1 _ _ b b1)
    · have k1 := b4 _ _ e e1 e2
      have k2 := e4 _ _ b b1 b2
      rw [e3] at k1
      rw [b3] at k2
      have hs : s = s2 := by rcases k1 with z | ⟨z, -⟩ <;> rcases k2 with y | ⟨y, -⟩ <;> omega
      have k1 := (k1.resolve_left (by omega)).2
      have k2 := (k2.resolve_left (by omega)).2
      have hh : hb = hb2 := by rcases k1 with z | ⟨z, -⟩ <;> rcases k2 with y | ⟨y, -⟩ <;> omega
      have l1 := (k1.resolve_left (by omega)).2
      have l2 := (k2.resolve_left (by omega)).2
      exact ⟨hh, fun _ => ⟨hs, l1.anti l2⟩⟩
