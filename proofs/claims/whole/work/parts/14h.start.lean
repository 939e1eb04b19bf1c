/-! ===== the world at the law's entry (its head out of the skeleton) ===== -/
/-! THE CLAIM OUT OF ONE WALK OF THE LAW'S BODY. Your part is whole_start (and what it stands on); all else here is the same for every law, but numbers. -/
def R_law : String := "KilnBenchLaw"
def lw_P (b : Addr) (xs : List Int32) (args : Array Value) (s : State) : Prop := args = #[.ref b] ∧ s.IntsAt b xs ∧ xs.length ≤ 3072 ∧ (Jvm.Cond.and given_1 narrow_1).before args s = true
def lw_Q (_ : Array Value) (s : State) (o : Outcome) (t : State) : Prop := o = .returned (some (.int 1)) ∧ Framed s o t [] 600000 7302250
def lw_Z (below : List Frame) (a : Array Value) (s : State) : State → Prop := fun t => ∃ o, t.status = .running ∧ Ended t below o ∧ lw_Q a s o t
/-- the law's own end, with 1 on the stack, nothing written that was there before, its room as the claim has it -/
theorem lw_ret {p : Program} {l : Launch} {e : Env} {s : State} {m : MethodId} {below : List Frame} {meth : Method} {c : Code} {b : Nat} (hx : p.tables.exec = Jvm.exec) (hb : c.code = code) (hr : meth.sig.returnType = ret) (hlocks : meth.locks = false) {pc : Nat} {H : Heap} {ls : Array Slot} (hdg : decode code pc = .ok (.ireturn, 1)) : W p l e room_1 s m #[Value.ref b] below meth c H [] 600000 7302250 (lw_Z below #[Value.ref b] s) (F0 m pc ls [.int 1]) := by
  intro T hT X
  obtain ⟨fs, hret, hrun, hended, hW, hframe⟩ := X.leave (v := some (.int 1)) (hlocks := hlocks) (fun h => by rw [hr] at h; cases h)
  have hmeth' : T.vm.method? m = some meth := X.method'
  refine ⟨T.setFrames fs, ?_, .returned (some (.int 1)), hrun, hended, rfl, ⟨_, rfl⟩, hW, hframe⟩
  jvm_step X.here [X.here.top, hx, hb, hdg, hmeth', hr, ret, narrow_b1]
  (try refine ⟨rfl, ?_⟩); (try refine ⟨rfl, ?_⟩)
  first | (intro acts; rw [hret _ acts rfl rfl rfl]) | rw [hret _ _ rfl rfl rfl]
  exact Steps.refl _
/-- what holds at the law's entry: the machine, the code, the tables' words (any of lw_tbl by 'hts w (by decide +kernel)'), the script of L ints xs at the cell b, what the Statement gives of the start (any of its parts by flat_of_before) -/
def lw_At (p : Program) (s : State) (m : MethodId) (meth : Method) (c : Code) (b L : Nat) (xs : Nat → Int32) : Prop :=
  p.tables.exec = Jvm.exec ∧ c.code = code ∧ meth.sig.returnType = ret ∧ c.maxLocals = 4 ∧ s.vm.findClass R_law = some m.cls ∧ (∀ w ∈ lw_tbl, w.before #[Value.ref b] s = true) ∧ va_X b L xs s s.heap ∧ b < s.heap.size ∧ meth.locks = false ∧ (Jvm.Cond.and given_1 narrow_1).before #[Value.ref b] s = true
theorem wi_KilnBench : Cond.instantiable "KilnBench" 16 ∈ m_w := m_mem 131 (by decide +kernel) rfl
theorem wn_KilnBench : Cond.initialized "KilnBench" ∈ m_w := m_mem 109 (by decide +kernel) rfl
theorem wi_KilnBenchModel : Cond.instantiable "KilnBenchModel" 67 ∈ m_w := m_mem 1219 (by decide +kernel) rfl
theorem wn_KilnBenchModel : Cond.initialized "KilnBenchModel" ∈ m_w := m_mem 125 (by decide +kernel) rfl
theorem vw_inst : ∀ q ∈ vwCl, Cond.instantiable q.1 q.2.2 ∈ m_w := by
  intro q hq
  simp only [vwCl, List.mem_cons, List.not_mem_nil, or_false] at hq
  rcases hq with rfl | rfl | rfl | rfl | rfl | rfl | rfl | rfl | rfl | rfl | rfl | rfl
  · exact wi_KilnBench_Bench
  · exact wi_KilnBench_BestSearch
  · exact wi_KilnBench_History
  · exact wi_KilnBench_Image
  · exact wi_KilnBench_Laws
  · exact wi_KilnBench_Machine
  · exact wi_KilnBench_Parser
  · exact wi_KilnBench_Reader
  · exact wi_KilnBench_Sight
  · exact wi_KilnBench_Town
  · exact wi_KilnBench
  · exact wi_KilnBenchModel
theorem k_nest {args : Array Value} {s : State} (hts : ∀ w ∈ lw_tbl, w.before args s = true) : ∀ w ∈ m_nest, va_Nw w s := by
  intro w hw
  simp only [m_nest, List.mem_cons, List.not_mem_nil, or_false] at hw
  rcases hw with rfl | rfl | rfl | rfl | rfl | rfl | rfl | rfl | rfl | rfl | rfl
  · exact va_Nw.of rfl (hts _ (List.mem_of_getElem? (i := 140) (by decide +kernel)))
  · exact va_Nw.of rfl (hts _ (List.mem_of_getElem? (i := 180) (by decide +kernel)))
  · exact va_Nw.of rfl (hts _ (List.mem_of_getElem? (i := 280) (by decide +kernel)))
  · exact va_Nw.of rfl (hts _ (List.mem_of_getElem? (i := 336) (by decide +kernel)))
  · exact va_Nw.of rfl (hts _ (List.mem_of_getElem? (i := 359) (by decide +kernel)))
  · exact va_Nw.of rfl (hts _ (List.mem_of_getElem? (i := 425) (by decide +kernel)))
  · exact va_Nw.of rfl (hts _ (List.mem_of_getElem? (i := 488) (by decide +kernel)))
  · exact va_Nw.of rfl (hts _ (List.mem_of_getElem? (i := 517) (by decide +kernel)))
  · exact va_Nw.of rfl (hts _ (List.mem_of_getElem? (i := 183) (by decide +kernel)))
  · exact va_Nw.of rfl (hts _ (List.mem_of_getElem? (i := 185) (by decide +kernel)))
  · exact va_Nw.of rfl (hts _ (List.mem_of_getElem? (i := 714) (by decide +kernel)))
theorem k_cls {args : Array Value} {s : State} (hts : ∀ w ∈ m_w, w.before args s = true) : ∃ D : va_G, ∀ (k : Nat) (q : vw_C), vwCl[k]? = some q → u_Kn s q.1 q.2.1 q.2.2 (D.1 k) (D.2 k) := by
  have hex : ∀ k : Nat, ∃ r : ClassId × (Nat → Nat), ∀ q, vwCl[k]? = some q → u_Kn s q.1 q.2.1 q.2.2 r.1 r.2 := by
    intro k
    cases hk : vwCl[k]? with
    | none => exact ⟨(0, fun _ => 0), fun q h => by cases h⟩
    | some q =>
      obtain ⟨cC, iS, h⟩ := u_known (ws := m_w) (C := q.1) (T := q.2.1) (N := q.2.2) (n := q.2.2) hts (m_cok_of hk).1 (hts _ (vw_inst q (List.mem_of_getElem? hk)))
      exact ⟨(cC, iS), fun q' h' => by cases h'; exact h⟩
  obtain ⟨f, hf⟩ := Classical.axiomOfChoice hex
  exact ⟨(fun k => (f k).1, fun k => (f k).2), fun k q h => hf k q h⟩
theorem k_arr {args : Array Value} {s : State} {ty : FieldType} (h : (Cond.arrayClass ty).before args s = true) : ∃ cA : ClassId, ArrOfT s cA ty ∧ s.vm.findClass ("[" ++ ty.toString) = some cA := by
  obtain ⟨cA, kA, comp, h1, h2, h3⟩ := Cond.arrayClass_spec h
  exact ⟨cA, fun N z => ⟨(fun k h => by cases h), kA, h2, comp, h3⟩, h1⟩
theorem k_arrO {args : Array Value} {s : State} {C : String} (h : (Cond.arrayOver (.object C)).before args s = true) : ∃ cA : ClassId, ArrOfT s cA (.object C) ∧ va_RA s cA (.object C) := by
  obtain ⟨comp, c, k, h1, h2, h3, h4, h5⟩ := Cond.arrayOver_spec h
  exact ⟨c, fun N z => ⟨(fun k h => by cases h), k, h3, comp, h4⟩, k, comp, h3, h4, h1, h5⟩
theorem k_start {p : Program} {s : State} {m : MethodId} {meth : Method} {c : Code} {b L : Nat} {xs : Nat → Int32} (l : Launch) (C0 : lw_At p s m meth c b L xs) : ∃ (G : m_G) (aS aV : Nat) (vF : Value), m_K G s ∧ m_Zk G ∧ G.2.1 = s.heap.size ∧ G.2.2.2.1 = (b, L, xs) ∧ G.2.2.2.2.2.2 = l ∧ G.2.2.2.2.2.1 = t_Z (m_A G) aS aV vF ∧ (vF = .null ∨ ∃ a, vF = .ref a) := by
  obtain ⟨hx, hb, hr, hml, hown, hts, hX, hbl, hlocks, hgv⟩ := C0
  have htw : ∀ w ∈ m_w, w.before #[Value.ref b] s = true := fun w hw => hts w (List.mem_filter.mp hw).1
  have hs := flat_of_before _ hgv
  have hA : ∀ a : Nat, a < s.heap.size → ¬ (fun q : Nat => s.heap.size ≤ q) a := fun a h => Nat.not_le.mpr h
  obtain ⟨D, hD⟩ := k_cls htw
  obtain ⟨cI, i1, i2⟩ := k_arr (ty := .int) (hts _ (List.mem_of_getElem? (i := 218) (by decide +kernel)))
  obtain ⟨cB, b1, b2⟩ := k_arr (ty := .byte) (hts _ (List.mem_of_getElem? (i := 217) (by decide +kernel)))
  obtain ⟨cZ, z1, z2⟩ := k_arr (ty := .boolean) (hts _ (List.mem_of_getElem? (i := 1427) (by decide +kernel)))
  obtain ⟨cJ, j1, j2⟩ := k_arr (ty := .long) (hts _ (List.mem_of_getElem? (i := 1426) (by decide +kernel)))
  have hov : (Cond.arrayOver (.object "KilnBench$Bench")).before #[Value.ref b] s = true := hts _ (List.mem_of_getElem? (i := 424) (by decide +kernel))
  obtain ⟨cO, o1, o2⟩ := k_arrO hov
  -- the letters' worth
  have lwe : ∀ j, j < 6 → (Cond.eq (.elem (.static "KilnBench" "LETTER_WORTH" "[I") (.int (Int32.ofNat j))) (.int (m_lwL.getD j 0))).before #[Value.ref b] s = true := fun j hj => hs _ ((by decide +kernel : ∀ j, j < 6 → (Cond.eq (.elem (.static "KilnBench" "LETTER_WORTH" "[I") (.int (Int32.ofNat j))) (.int (m_lwL.getD j 0))) ∈ flatC (Jvm.Cond.and given_1 narrow_1)) j hj)
  obtain ⟨aL, eL, tL⟩ := va_Tof (args := #[Value.ref b]) (s := s) (tm := .static "KilnBench" "LETTER_WORTH" "[I") (ty := .int) (N := 6) (f := fun j => .int (m_lwL.getD j 0)) (A := fun q : Nat => s.heap.size ≤ q) (by decide) (hs _ (by decide +kernel)) (va_eqt (z := 6) (hs _ (by decide +kernel))) (fun j hj => va_eqt (lwe j hj)) hA
  have zL : va_Z "KilnBench" "LETTER_WORTH" "[I" (.ref aL) (fun q : Nat => s.heap.size ≤ q) s s.heap := va_Zref (args := #[Value.ref b]) (hts _ (List.mem_of_getElem? (i := 281) (by decide +kernel))) (hts (.initialized "KilnBench") (by decide +kernel)) eL hA
  -- the text
  have tex : ∀ j, j < 132 → (Cond.eq (.elem (.field (.string "KilnBench$Reader" 43) "java/lang/String" "value" "[B") (.int (Int32.ofNat j))) (.int (t_by.getD j 0))).before #[Value.ref b] s = true := fun j hj => hs _ ((by decide +kernel : ∀ j, j < 132 → (Cond.eq (.elem (.field (.string "KilnBench$Reader" 43) "java/lang/String" "value" "[B") (.int (Int32.ofNat j))) (.int (t_by.getD j 0))) ∈ flatC (Jvm.Cond.and given_1 narrow_1)) j hj)
  obtain ⟨adK, adV, hvS, hvE⟩ := vk_Sof (args := #[Value.ref b]) (s := s) (N := 1) (tm := fun _ => .string "KilnBench$Reader" 43) (len := [132]) (byt := [t_by]) (A := fun q : Nat => s.heap.size ≤ q) (fun i hi => by rcases i with _ | i; decide; omega) (fun i hi => hs _ (by decide +kernel)) (fun i hi => hs _ (by decide +kernel)) (fun i hi => hs _ (by decide +kernel)) (fun i hi => by rcases i with _ | i; exact hs _ (by decide +kernel); omega) (fun i hi j hj => by rcases i with _ | i; exact tex j hj; omega) (fun i j hi hj h => absurd (by omega) h) hA
  obtain ⟨q1, q2, q3, q4⟩ := hvS.1 0 (by decide)
  have zC : va_Z "java/lang/String" "COMPACT_STRINGS" "Z" (.int 1) (fun q : Nat => s.heap.size ≤ q) s s.heap := va_Zof (args := #[Value.ref b]) (hts _ (List.mem_of_getElem? (i := 241) (by decide +kernel))) (hts (.initialized "java/lang/String") (List.mem_of_getElem? (i := 113) (by decide +kernel))) (va_eqt (hs _ (by decide +kernel))) hA
  have zF : va_Zq "jdk/internal/util/Preconditions" "SIOOBE_FORMATTER" "Ljava/util/function/BiFunction;" (fun q : Nat => s.heap.size ≤ q) s s.heap := va_Zqof (args := #[Value.ref b]) (hts _ (List.mem_of_getElem? (i := 257) (by decide +kernel))) (hts (.initialized "jdk/internal/util/Preconditions") (List.mem_of_getElem? (i := 115) (by decide +kernel))) (hs _ (by decide +kernel)) hA
  have rS : vk_R "KilnBench$Reader" 43 t_tx (adK 0) s := vk_R.of (A := #[Value.ref b]) (hts _ (List.mem_of_getElem? (i := 231) (by decide +kernel))) (hvE 0 (by decide))
  have fin : ∀ vF : Value, va_Z "jdk/internal/util/Preconditions" "SIOOBE_FORMATTER" "Ljava/util/function/BiFunction;" vF (fun q : Nat => s.heap.size ≤ q) s s.heap → (vF = .null ∨ ∃ a, vF = .ref a) → ∃ (G : m_G) (aS aV : Nat) (vF : Value), m_K G s ∧ m_Zk G ∧ G.2.1 = s.heap.size ∧ G.2.2.2.1 = (b, L, xs) ∧ G.2.2.2.2.2.2 = l ∧ G.2.2.2.2.2.1 = t_Z (m_A G) aS aV vF ∧ (vF = .null ∨ ∃ a, vF = .ref a) := fun vF hF hv => by
    refine ⟨(D, s.heap.size, fun k => if k = 0 then cI else if k = 1 then cB else if k = 2 then cZ else if k = 3 then cJ else cO, (b, L, xs), aL, t_Z (fun q : Nat => s.heap.size ≤ q) (adK 0) (adV 0) vF, l), adK 0, adV 0, vF, ?_, ?_, rfl, rfl, rfl, rfl, hv⟩
    · refine ⟨⟨hD, fun k q hk => ?_⟩, k_nest hts, va_AO.of hov, zL, tL, hX, hbl, Nat.le_refl _, ⟨rS, q1, q2, q3, q4, zC, hF⟩⟩
      match k, hk with
      | 0, hk => cases hk; exact ⟨i1, i2⟩
      | 1, hk => cases hk; exact ⟨b1, b2⟩
      | 2, hk => cases hk; exact ⟨z1, z2⟩
      | 3, hk => cases hk; exact ⟨j1, j2⟩
      | 4, hk => cases hk; exact ⟨o1, o2⟩
      | k + 5, hk => cases hk
    · intro s' U h hW hk
      exact t_Z.mv h hW hk
  rcases zF with h | ⟨a, h⟩
  · exact fin .null h (Or.inl rfl)
  · exact fin (.ref a) h (Or.inr ⟨a, rfl⟩)
