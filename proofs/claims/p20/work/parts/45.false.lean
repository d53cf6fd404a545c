/-! The law answers 0 at a start that meets the Statement's premises: the claim is false. -/
def rf_cells : Array Value := #[.int 6, .int 0, .int (-1), .int (-1), .int (-1), .int 0, .int 0, .int 0, .int 0, .int 0, .int 16, .int 12, .int (-1), .int 0, .int 0, .int 0, .int 0, .int 0, .int 0, .int 0, .int 18, .int 0, .int 0, .int 0, .int 0, .int 0, .int 0, .int 0, .int 0, .int 0]
def rf_s : State := start1.aboutOf rf_cells
theorem rf_on : ∀ c : Cond, c.onTables = true → c.before start1.args0 start1.about = true → c.before start1.args0 rf_s = true := by
  intro c hc h
  have e := Cond.onTables_vm (A := start1.args0) (A' := start1.args0) (U := rf_s) (U' := start1.about) start1.about.vm c hc
  have e1 : rf_s.setVm start1.about.vm = rf_s := rfl
  have e2 : start1.about.setVm start1.about.vm = start1.about := rfl
  rw [e1, e2] at e
  rw [e]
  exact h
theorem rf_off : ((Jvm.Cond.code x code maxLocals ret :: tables_1).filter (fun c => !c.onTables)).all (fun c => c.before start1.args0 rf_s) = true := by decide +kernel
theorem rf_words : ∀ c ∈ (Jvm.Cond.code x code maxLocals ret :: tables_1), c.before start1.args0 rf_s = true := by
  intro c hc
  cases ho : c.onTables with
  | true => exact rf_on c ho (start1.words c hc)
  | false => exact List.all_eq_true.mp rf_off c (List.mem_filter.mpr ⟨hc, by rw [ho]; rfl⟩)
theorem rf_given : (Jvm.Cond.and given_1 narrow_1).before start1.args0 rf_s = true := by decide +kernel
theorem rf_ints : rf_s.IntsAt 0 xscr := ⟨{ cls := 30, slots := rf_cells, vm := .none }, rfl, rfl, ⟨(fun k h => by cases h), _, rfl, _, rfl⟩, by decide⟩
set_option maxHeartbeats 4000000 in
theorem rf_walk (l : Launch) (hl : l.stackTraces = false) : MetFree l x (headSpec (Jvm.Cond.code x code maxLocals ret :: tables_1) room_1) (fun args s => args = #[Value.ref 0] ∧ s = rf_s) (fun _ _ _ _ _ => True) (fun _ _ o _ => o = .returned (some (.int 0))) := by
  refine MetFree.of_bodyS (code := code) (maxLocals := maxLocals) (ret := ret) (by decide) ?_ ?_
  · intro args s m h hn
    obtain ⟨meth, c, h1, h2, h3, h4, h5, h6, -, -⟩ := Cond.code_spec hn (atoms_spec (ws := Jvm.Cond.code x code maxLocals ret :: tables_1) h _ List.mem_cons_self)
    exact ⟨meth, c, h1, h2, h3, h4, h5, h6⟩
  · intro p e s m args below meth c s₁ B hml0 hP _
    obtain ⟨rfl, hs⟩ := hP
    have hx : s.IntsAt 0 xscr := by rw [hs]; exact rf_ints
    have hgv : (Jvm.Cond.and given_1 narrow_1).before #[Value.ref 0] s = true := by rw [hs]; exact rf_given
    obtain ⟨scr, harrAt, hlist, hof, hsmall⟩ := hx
    obtain ⟨hcb, hkn, -, -⟩ := State.arrayAt?_spec harrAt
    have hown : s.vm.findClass "ProxyForgeLaw" = some m.cls := findClass_of_methodNamed B.named
    have hts0 : ∀ c ∈ (Jvm.Cond.code x code maxLocals ret :: tables_1), c.before #[Value.ref 0] s = true := atoms_spec (ws := Jvm.Cond.code x code maxLocals ret :: tables_1) B.pre
    have hts : ∀ w ∈ lw_tbl, w.before #[Value.ref 0] s = true := k2_hts_sels lw_privs (fun w hw => hts0 w (List.mem_cons_of_mem _ hw)) lw_privs_ok
    have hml : c.maxLocals = 7 := B.maxLocals_eq (hts0 _ List.mem_cons_self)
    have X₀ : Stand p l e room_1 s m #[Value.ref 0] below meth c s₁ [] 0 0 := Stand.of_body B
    have hnm : meth.name = "law" := (name_of_methodNamed B.named B.method).1
    have hex : c.exceptionTable.toList.map (fun h => (h.startPc, h.endPc, h.handlerPc, h.catchType)) = [] := by
      obtain ⟨mk, ck, k1, k2, -, -, -, -, k7, -⟩ := xcw_spec (y := x) (cb := code) (maxL := maxLocals) (ret := ret) (hs := []) B.named (hts0 _ List.mem_cons_self)
      cases B.method.symm.trans k1
      cases X₀.code.symm.trans k2
      exact k7
    have hh0 : s₁.heap = s.heap := by rw [B.state]; rfl
    have hsz : scr.slots.size = xscr.length := by rw [← Array.length_toList, hlist, List.length_map]
    have hval : ∀ j : Nat, j < xscr.length → scr.slots[j]? = some (.int (xscr.getD j 0)) := fun j hj => by
      rw [← Array.getElem?_toList, hlist]
      simp [hj]
    have hbl : 0 < s.heap.size := (Array.getElem?_eq_some_iff.mp hcb).1
    have hX : va_X 0 xscr.length (fun j => xscr.getD j 0) s s.heap := ⟨scr, hcb, hof, hkn, hsz, hval⟩
    have htr : e.platform.stackTraces = false := by
      rw [B.admits.platform]
      exact hl
    obtain ⟨D, dA, E, hE, hE0, hEi, hEl, hS⟩ := xbegin (show xscr.length ≤ 64 by decide) hts hX hbl hgv
    have hF : xF p e s m meth c xe142.1 xe142.2.1 xe142.2.2.1 xe142.2.2.2.1 xe142.2.2.2.2 := ⟨B.exec, B.bytes, hml, B.returns, ⟨B.notSynchronized, htr⟩, hnm, hown, hex⟩
    have K : W p l e room_1 s m #[Value.ref 0] below meth c s₁.heap [] 0 0 (rf_Z below) (entryFrame m ([Value.ref 0] : List Value).toArray 7) := by
      rw [hh0]
      exact rf_start hE hE0 hF (xS_G (G := xG0 xscr.length) rfl (xGk_run hEi hEl (fun j _ => rfl)) (hS (fun _ _ _ _ => False)))
    obtain ⟨t, a1, o, b1, b2, b3⟩ := K s₁ rfl X₀
    exact ⟨t, o, a1, b1, b2, b3⟩
theorem rf_ended {s : State} {below : List Frame} {v : Value} (h : Ended s below (.returned (some v))) : s.frames.length = below.length := by
  match below, h with
  | [], h => exact absurd h.1 (by simp)
  | .java g :: r, h =>
    obtain ⟨c, i, len, -, -, h⟩ := h
    rw [h]; rfl
  | .native g :: r, h =>
    have h3 : s.frames = _ := h
    rw [h3]; rfl
  | .proc g :: r, h =>
    have h3 : s.frames = _ := h
    rw [h3]; rfl
  | .invoking .. :: r, h => exact absurd h.1 (by simp)
  | .throwing .. :: r, h => exact absurd h.1 (by simp)
theorem rf_within {s : State} {below : List Frame} (h : Within s below) : below.length < s.frames.length := by
  obtain ⟨above, h1, h2, -⟩ := h
  rw [h1, List.length_append]
  have : 0 < above.length := List.length_pos_iff.mpr h2
  omega
theorem rf_same {s : State} {below : List Frame} {v w : Value} (h : Ended s below (.returned (some v))) (h' : Ended s below (.returned (some w))) : v = w := by
  match below, h, h' with
  | [], h, _ => exact absurd h.1 (by simp)
  | .java g :: r, h, h' =>
    obtain ⟨c, i, len, h1, h2, h3⟩ := h
    obtain ⟨c', i', len', h1', h2', h3'⟩ := h'
    rw [h3] at h3'
    simp at h3'
    obtain ⟨-, h3'⟩ := h3'
    first | exact h3' | exact h3'.1
  | .native g :: r, h, h' =>
    have h3 : s.frames = _ := h
    have h4 : s.frames = _ := h'
    rw [h3] at h4
    simpa using h4
  | .proc g :: r, h, h' =>
    have h3 : s.frames = _ := h
    have h4 : s.frames = _ := h'
    rw [h3] at h4
    simpa using h4
  | .invoking .. :: r, h, _ => exact absurd h.1 (by simp)
  | .throwing .. :: r, h, _ => exact absurd h.1 (by simp)
set_option maxRecDepth 16384 in
/-- the claim is false -/
theorem not_claimed : ¬ (Claimed_1_1 ∧ Claimed_1_2) := by
  intro ⟨_, h⟩
  have happ : (headSpec (Jvm.Cond.code x code maxLocals ret :: tables_1) room_1).applies x start1.e0.platform rf_s = true :=
    (Spec.applies_iff rfl).mpr ⟨rfl, rfl, rfl, by decide +kernel, by decide +kernel, by decide +kernel, launch0.hasRoom_least _ room_1 (by decide +kernel) (by decide +kernel) (by decide +kernel) (by decide +kernel) (by decide +kernel) (by decide +kernel), atoms_intro rf_words⟩
  have hl : launch0.stackTraces = false := by decide
  obtain ⟨n, o, hw, hr, he, ⟨hp, ⟨v, hv⟩, -⟩⟩ := h launch0 rfl lists_1 trivial start1.p0 start1.e0 (launch0.admits_env _ _ _) fairChoices_fair.cas fairChoices_fair.clock rf_s ⟨0, 0⟩ start1.args0 Lib.HandBits.below0 rfl (by decide +kernel) (by decide +kernel) happ
    ⟨trivial, (show rest_1_c.before start1.args0 rf_s = true by decide +kernel), rf_given⟩
  obtain ⟨k, o', hw', hr', he', ho'⟩ := rf_walk launch0 hl start1.p0 start1.e0 (launch0.admits_env _ _ _) fairChoices_fair.cas fairChoices_fair.clock rf_s ⟨0, 0⟩ start1.args0 Lib.HandBits.below0 rfl ((Spec.applies_iff_loose rfl).mp happ).1 ⟨rfl, rfl⟩ trivial
  subst ho'
  subst hv
  have hv1 : v = some (.int 1) := by
    have hp : limb_1_2.after start1.args0 rf_s (.returned v) _ = true := hp
    cases v with
    | none => simp [limb_1_2, Cond.after, Cond.holds, Cond.value, Term.eval] at hp
    | some z => cases z <;> simp_all [limb_1_2, Cond.after, Cond.holds, Cond.value, Term.eval]
  subst hv1
  have e : k = n := by
    rcases Nat.lt_trichotomy k n with q | q | q
    · have h1 := rf_within (hw k q)
      have h2 := rf_ended he'
      omega
    · exact q
    · have h1 := rf_within (hw' n q)
      have h2 := rf_ended he
      omega
  subst e
  exact absurd (rf_same he he') (by simp)
