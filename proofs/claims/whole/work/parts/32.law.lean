-- ===== end of PART A; then your names; then what follows =====
/-! THE CLAIM OUT OF ONE WALK OF THE LAW'S BODY. Your part is whole_start (and what it stands on); all else here is the same for every law, but numbers. -/
def R_law : String := "BumpDiaryLaw"
def lw_P (b : Addr) (xs : List Int32) (args : Array Value) (s : State) : Prop := args = #[.ref b] ∧ s.IntsAt b xs ∧ xs.length ≤ 448 ∧ (Jvm.Cond.and given_1 narrow_1).before args s = true
def lw_Q (_ : Array Value) (s : State) (o : Outcome) (t : State) : Prop := o = .returned (some (.int 1)) ∧ Framed s o t [] 600000 7302250
def lw_Z (below : List Frame) (a : Array Value) (s : State) : State → Prop := fun t => ∃ o, t.status = .running ∧ Ended t below o ∧ lw_Q a s o t
/-- the law's own end, with 1 on the stack, nothing written that was there before, its room as the claim has it -/
theorem lw_ret {p : Program} {l : Launch} {e : Env} {s : State} {m : MethodId} {below : List Frame} {meth : Method} {c : Code} {b : Nat} (hx : p.tables.exec = Jvm.exec) (hb : c.code = code) (hr : meth.sig.returnType = ret) (hlocks : meth.locks = false) {pc : Nat} {H : Heap} {ls : Array Slot} (hdg : decode code pc = .ok (.ireturn, 1)) : W p l e room_1 s m #[Value.ref b] below meth c H [] 600000 7302250 (lw_Z below #[Value.ref b] s) (F0 m pc ls [.int 1]) := by
  intro T hT X
  obtain ⟨fs, hret, hrun, hended, hW, hframe⟩ := X.leave (v := some (.int 1)) (hlocks := hlocks) (fun h => by rw [hr] at h; cases h)
  have hmeth' : T.vm.method? m = some meth := X.method'
  refine ⟨T.setFrames fs, ?_, .returned (some (.int 1)), hrun, hended, rfl, ⟨_, rfl⟩, hW, hframe⟩
  jvm_step X.here [X.here.top, hx, hb, hdg, hmeth', hr, ret, narrow_b1]
  (try refine ⟨rfl, ?_⟩); (try refine ⟨rfl, ?_⟩)
  first | (intro acts; rw [hret _ acts rfl rfl rfl]) | rw [hret _ _ rfl rfl rfl]
  exact Steps.refl _
/-- what holds at the law's entry: the machine, the code, the tables' words (any of lw_tbl by 'hts w (by decide +kernel)'), the script of L ints xs at the cell b, what the Statement gives of the start (any of its parts by flat_of_before) -/
def lw_At (p : Program) (s : State) (m : MethodId) (meth : Method) (c : Code) (b L : Nat) (xs : Nat → Int32) : Prop :=
  p.tables.exec = Jvm.exec ∧ c.code = code ∧ meth.sig.returnType = ret ∧ c.maxLocals = 4 ∧ s.vm.findClass R_law = some m.cls ∧ (∀ w ∈ lw_tbl, w.before #[Value.ref b] s = true) ∧ va_X b L xs s s.heap ∧ b < s.heap.size ∧ meth.locks = false ∧ (Jvm.Cond.and given_1 narrow_1).before #[Value.ref b] s = true

theorem wd_13 : Cond.classLink RL 7 RX8 ∈ BG := bg_of (List.mem_append_right _ (List.mem_append_left _ (List.mem_of_getElem? (l := tables_1_1) (i := 13) rfl))) rfl
theorem wd_14 : Cond.instantiable RX8 13 ∈ BG := bg_of (List.mem_append_right _ (List.mem_append_left _ (List.mem_of_getElem? (l := tables_1_1) (i := 14) rfl))) rfl
theorem wd_15 : Cond.methodLink RL 9 yX8_init ∈ BG := bg_of (List.mem_append_right _ (List.mem_append_left _ (List.mem_of_getElem? (l := tables_1_1) (i := 15) rfl))) rfl
theorem wd_16 : Cond.instanceMethod yX8_init ∈ BG := bg_of (List.mem_append_right _ (List.mem_append_left _ (List.mem_of_getElem? (l := tables_1_1) (i := 16) rfl))) rfl
theorem wd_17 : Cond.code yX8_init cX8_init 1 none ∈ BG := bg_of (List.mem_append_right _ (List.mem_append_left _ (List.mem_of_getElem? (l := tables_1_1) (i := 17) rfl))) rfl
theorem wd_272 : Cond.methodLink RL 13 yX8_house ∈ BG := bg_of (List.mem_append_right _ (List.mem_append_right _ (List.mem_append_left _ (List.mem_of_getElem? (l := tables_1_2) (i := 32) rfl)))) rfl
theorem wd_273 : Cond.instanceMethod yX8_house ∈ BG := bg_of (List.mem_append_right _ (List.mem_append_right _ (List.mem_append_left _ (List.mem_of_getElem? (l := tables_1_2) (i := 33) rfl)))) rfl
theorem wd_274 : Cond.selects RX8 yX8_house yX8_house ∈ BG := bg_of (List.mem_append_right _ (List.mem_append_right _ (List.mem_append_left _ (List.mem_of_getElem? (l := tables_1_2) (i := 34) rfl)))) rfl
theorem wd_275 : Cond.code yX8_house cX8_house 7 (some .int) ∈ BG := bg_of (List.mem_append_right _ (List.mem_append_right _ (List.mem_append_left _ (List.mem_of_getElem? (l := tables_1_2) (i := 35) rfl)))) rfl
theorem wd_374 : Cond.methodLink RL 18 yX8_ofDoer ∈ BG := bg_of (List.mem_append_right _ (List.mem_append_right _ (List.mem_append_left _ (List.mem_of_getElem? (l := tables_1_2) (i := 134) rfl)))) rfl
theorem wd_375 : Cond.instanceMethod yX8_ofDoer ∈ BG := bg_of (List.mem_append_right _ (List.mem_append_right _ (List.mem_append_left _ (List.mem_of_getElem? (l := tables_1_2) (i := 135) rfl)))) rfl
theorem wd_376 : Cond.selects RX8 yX8_ofDoer yX8_ofDoer ∈ BG := bg_of (List.mem_append_right _ (List.mem_append_right _ (List.mem_append_left _ (List.mem_of_getElem? (l := tables_1_2) (i := 136) rfl)))) rfl
theorem wd_377 : Cond.code yX8_ofDoer cX8_ofDoer 3 (some .int) ∈ BG := bg_of (List.mem_append_right _ (List.mem_append_right _ (List.mem_append_left _ (List.mem_of_getElem? (l := tables_1_2) (i := 137) rfl)))) rfl
theorem wd_399 : Cond.methodLink RL 23 yX8_ofPen ∈ BG := bg_of (List.mem_append_right _ (List.mem_append_right _ (List.mem_append_left _ (List.mem_of_getElem? (l := tables_1_2) (i := 159) rfl)))) rfl
theorem wd_400 : Cond.instanceMethod yX8_ofPen ∈ BG := bg_of (List.mem_append_right _ (List.mem_append_right _ (List.mem_append_left _ (List.mem_of_getElem? (l := tables_1_2) (i := 160) rfl)))) rfl
theorem wd_401 : Cond.selects RX8 yX8_ofPen yX8_ofPen ∈ BG := bg_of (List.mem_append_right _ (List.mem_append_right _ (List.mem_append_left _ (List.mem_of_getElem? (l := tables_1_2) (i := 161) rfl)))) rfl
theorem wd_402 : Cond.code yX8_ofPen cX8_ofPen 3 (some .int) ∈ BG := bg_of (List.mem_append_right _ (List.mem_append_right _ (List.mem_append_left _ (List.mem_of_getElem? (l := tables_1_2) (i := 162) rfl)))) rfl
theorem wd_407 : Cond.methodLink RL 27 yX8_creak ∈ BG := bg_of (List.mem_append_right _ (List.mem_append_right _ (List.mem_append_left _ (List.mem_of_getElem? (l := tables_1_2) (i := 167) rfl)))) rfl
theorem wd_408 : Cond.instanceMethod yX8_creak ∈ BG := bg_of (List.mem_append_right _ (List.mem_append_right _ (List.mem_append_left _ (List.mem_of_getElem? (l := tables_1_2) (i := 168) rfl)))) rfl
theorem wd_409 : Cond.selects RX8 yX8_creak yX8_creak ∈ BG := bg_of (List.mem_append_right _ (List.mem_append_right _ (List.mem_append_left _ (List.mem_of_getElem? (l := tables_1_2) (i := 169) rfl)))) rfl
theorem wd_410 : Cond.code yX8_creak cX8_creak 2 (some .int) ∈ BG := bg_of (List.mem_append_right _ (List.mem_append_right _ (List.mem_append_left _ (List.mem_of_getElem? (l := tables_1_2) (i := 170) rfl)))) rfl
theorem wd_412 : Cond.methodLink RL 32 yX8_oil ∈ BG := bg_of (List.mem_append_right _ (List.mem_append_right _ (List.mem_append_left _ (List.mem_of_getElem? (l := tables_1_2) (i := 172) rfl)))) rfl
theorem wd_413 : Cond.instanceMethod yX8_oil ∈ BG := bg_of (List.mem_append_right _ (List.mem_append_right _ (List.mem_append_left _ (List.mem_of_getElem? (l := tables_1_2) (i := 173) rfl)))) rfl
theorem wd_414 : Cond.selects RX8 yX8_oil yX8_oil ∈ BG := bg_of (List.mem_append_right _ (List.mem_append_right _ (List.mem_append_left _ (List.mem_of_getElem? (l := tables_1_2) (i := 174) rfl)))) rfl
theorem wd_415 : Cond.code yX8_oil cX8_oil 4 (some .int) ∈ BG := bg_of (List.mem_append_right _ (List.mem_append_right _ (List.mem_append_left _ (List.mem_of_getElem? (l := tables_1_2) (i := 175) rfl)))) rfl
theorem wd_419 : Cond.methodLink RL 36 yX8_dine ∈ BG := bg_of (List.mem_append_right _ (List.mem_append_right _ (List.mem_append_left _ (List.mem_of_getElem? (l := tables_1_2) (i := 179) rfl)))) rfl
theorem wd_420 : Cond.instanceMethod yX8_dine ∈ BG := bg_of (List.mem_append_right _ (List.mem_append_right _ (List.mem_append_left _ (List.mem_of_getElem? (l := tables_1_2) (i := 180) rfl)))) rfl
theorem wd_421 : Cond.selects RX8 yX8_dine yX8_dine ∈ BG := bg_of (List.mem_append_right _ (List.mem_append_right _ (List.mem_append_left _ (List.mem_of_getElem? (l := tables_1_2) (i := 181) rfl)))) rfl
theorem wd_422 : Cond.code yX8_dine cX8_dine 4 (some .int) ∈ BG := bg_of (List.mem_append_right _ (List.mem_append_right _ (List.mem_append_left _ (List.mem_of_getElem? (l := tables_1_2) (i := 182) rfl)))) rfl
theorem wd_423 : Cond.methodLink RL 40 yX8_carry ∈ BG := bg_of (List.mem_append_right _ (List.mem_append_right _ (List.mem_append_left _ (List.mem_of_getElem? (l := tables_1_2) (i := 183) rfl)))) rfl
theorem wd_424 : Cond.instanceMethod yX8_carry ∈ BG := bg_of (List.mem_append_right _ (List.mem_append_right _ (List.mem_append_left _ (List.mem_of_getElem? (l := tables_1_2) (i := 184) rfl)))) rfl
theorem wd_425 : Cond.selects RX8 yX8_carry yX8_carry ∈ BG := bg_of (List.mem_append_right _ (List.mem_append_right _ (List.mem_append_left _ (List.mem_of_getElem? (l := tables_1_2) (i := 185) rfl)))) rfl
theorem wd_426 : Cond.code yX8_carry cX8_carry 4 (some .int) ∈ BG := bg_of (List.mem_append_right _ (List.mem_append_right _ (List.mem_append_left _ (List.mem_of_getElem? (l := tables_1_2) (i := 186) rfl)))) rfl
theorem wd_427 : Cond.methodLink RL 44 yX8_leap ∈ BG := bg_of (List.mem_append_right _ (List.mem_append_right _ (List.mem_append_left _ (List.mem_of_getElem? (l := tables_1_2) (i := 187) rfl)))) rfl
theorem wd_428 : Cond.instanceMethod yX8_leap ∈ BG := bg_of (List.mem_append_right _ (List.mem_append_right _ (List.mem_append_left _ (List.mem_of_getElem? (l := tables_1_2) (i := 188) rfl)))) rfl
theorem wd_429 : Cond.selects RX8 yX8_leap yX8_leap ∈ BG := bg_of (List.mem_append_right _ (List.mem_append_right _ (List.mem_append_left _ (List.mem_of_getElem? (l := tables_1_2) (i := 189) rfl)))) rfl
theorem wd_430 : Cond.code yX8_leap cX8_leap 3 (some .int) ∈ BG := bg_of (List.mem_append_right _ (List.mem_append_right _ (List.mem_append_left _ (List.mem_of_getElem? (l := tables_1_2) (i := 190) rfl)))) rfl
theorem wd_435 : Cond.methodLink RL 48 yX8_bump ∈ BG := bg_of (List.mem_append_right _ (List.mem_append_right _ (List.mem_append_left _ (List.mem_of_getElem? (l := tables_1_2) (i := 195) rfl)))) rfl
theorem wd_436 : Cond.instanceMethod yX8_bump ∈ BG := bg_of (List.mem_append_right _ (List.mem_append_right _ (List.mem_append_left _ (List.mem_of_getElem? (l := tables_1_2) (i := 196) rfl)))) rfl
theorem wd_437 : Cond.selects RX8 yX8_bump yX8_bump ∈ BG := bg_of (List.mem_append_right _ (List.mem_append_right _ (List.mem_append_left _ (List.mem_of_getElem? (l := tables_1_2) (i := 197) rfl)))) rfl
theorem wd_438 : Cond.code yX8_bump cX8_bump 5 (some .int) ∈ BG := bg_of (List.mem_append_right _ (List.mem_append_right _ (List.mem_append_left _ (List.mem_of_getElem? (l := tables_1_2) (i := 198) rfl)))) rfl
theorem wd_454 : Cond.methodLink RL 53 yX8_step ∈ BG := bg_of (List.mem_append_right _ (List.mem_append_right _ (List.mem_append_left _ (List.mem_of_getElem? (l := tables_1_2) (i := 214) rfl)))) rfl
theorem wd_455 : Cond.instanceMethod yX8_step ∈ BG := bg_of (List.mem_append_right _ (List.mem_append_right _ (List.mem_append_left _ (List.mem_of_getElem? (l := tables_1_2) (i := 215) rfl)))) rfl
theorem wd_456 : Cond.selects RX8 yX8_step yX8_step ∈ BG := bg_of (List.mem_append_right _ (List.mem_append_right _ (List.mem_append_left _ (List.mem_of_getElem? (l := tables_1_2) (i := 216) rfl)))) rfl
theorem wd_457 : Cond.code yX8_step cX8_step 4 (some .int) ∈ BG := bg_of (List.mem_append_right _ (List.mem_append_right _ (List.mem_append_left _ (List.mem_of_getElem? (l := tables_1_2) (i := 217) rfl)))) rfl
theorem wd_463 : Cond.methodLink RL 57 yX8_paper ∈ BG := bg_of (List.mem_append_right _ (List.mem_append_right _ (List.mem_append_left _ (List.mem_of_getElem? (l := tables_1_2) (i := 223) rfl)))) rfl
theorem wd_464 : Cond.instanceMethod yX8_paper ∈ BG := bg_of (List.mem_append_right _ (List.mem_append_right _ (List.mem_append_left _ (List.mem_of_getElem? (l := tables_1_2) (i := 224) rfl)))) rfl
theorem wd_465 : Cond.selects RX8 yX8_paper yX8_paper ∈ BG := bg_of (List.mem_append_right _ (List.mem_append_right _ (List.mem_append_left _ (List.mem_of_getElem? (l := tables_1_2) (i := 225) rfl)))) rfl
theorem wd_466 : Cond.code yX8_paper cX8_paper 1 (some .int) ∈ BG := bg_of (List.mem_append_right _ (List.mem_append_right _ (List.mem_append_left _ (List.mem_of_getElem? (l := tables_1_2) (i := 226) rfl)))) rfl
theorem wd_468 : Cond.methodLink RL 62 yX8_night ∈ BG := bg_of (List.mem_append_right _ (List.mem_append_right _ (List.mem_append_left _ (List.mem_of_getElem? (l := tables_1_2) (i := 228) rfl)))) rfl
theorem wd_469 : Cond.instanceMethod yX8_night ∈ BG := bg_of (List.mem_append_right _ (List.mem_append_right _ (List.mem_append_left _ (List.mem_of_getElem? (l := tables_1_2) (i := 229) rfl)))) rfl
theorem wd_470 : Cond.selects RX8 yX8_night yX8_night ∈ BG := bg_of (List.mem_append_right _ (List.mem_append_right _ (List.mem_append_left _ (List.mem_of_getElem? (l := tables_1_2) (i := 230) rfl)))) rfl
theorem wd_471 : Cond.code yX8_night cX8_night 9 (some .int) ∈ BG := bg_of (List.mem_append_right _ (List.mem_append_right _ (List.mem_append_left _ (List.mem_of_getElem? (l := tables_1_2) (i := 231) rfl)))) rfl
theorem wd_509 : Cond.methodLink RL 67 yX8_quiet ∈ BG := bg_of (List.mem_append_right _ (List.mem_append_right _ (List.mem_append_right _ (List.mem_append_left _ (List.mem_of_getElem? (l := tables_1_3) (i := 29) rfl))))) rfl
theorem wd_510 : Cond.instanceMethod yX8_quiet ∈ BG := bg_of (List.mem_append_right _ (List.mem_append_right _ (List.mem_append_right _ (List.mem_append_left _ (List.mem_of_getElem? (l := tables_1_3) (i := 30) rfl))))) rfl
theorem wd_511 : Cond.selects RX8 yX8_quiet yX8_quiet ∈ BG := bg_of (List.mem_append_right _ (List.mem_append_right _ (List.mem_append_right _ (List.mem_append_left _ (List.mem_of_getElem? (l := tables_1_3) (i := 31) rfl))))) rfl
theorem wd_512 : Cond.code yX8_quiet cX8_quiet 4 (some .int) ∈ BG := bg_of (List.mem_append_right _ (List.mem_append_right _ (List.mem_append_right _ (List.mem_append_left _ (List.mem_of_getElem? (l := tables_1_3) (i := 32) rfl))))) rfl
theorem wd_540 : Cond.methodLink RL 71 yX8_meet ∈ BG := bg_of (List.mem_append_right _ (List.mem_append_right _ (List.mem_append_right _ (List.mem_append_left _ (List.mem_of_getElem? (l := tables_1_3) (i := 60) rfl))))) rfl
theorem wd_541 : Cond.instanceMethod yX8_meet ∈ BG := bg_of (List.mem_append_right _ (List.mem_append_right _ (List.mem_append_right _ (List.mem_append_left _ (List.mem_of_getElem? (l := tables_1_3) (i := 61) rfl))))) rfl
theorem wd_542 : Cond.selects RX8 yX8_meet yX8_meet ∈ BG := bg_of (List.mem_append_right _ (List.mem_append_right _ (List.mem_append_right _ (List.mem_append_left _ (List.mem_of_getElem? (l := tables_1_3) (i := 62) rfl))))) rfl
theorem wd_543 : Cond.code yX8_meet cX8_meet 6 (some .int) ∈ BG := bg_of (List.mem_append_right _ (List.mem_append_right _ (List.mem_append_right _ (List.mem_append_left _ (List.mem_of_getElem? (l := tables_1_3) (i := 63) rfl))))) rfl
theorem wd_548 : Cond.methodLink RL 75 yX8_fits ∈ BG := bg_of (List.mem_append_right _ (List.mem_append_right _ (List.mem_append_right _ (List.mem_append_left _ (List.mem_of_getElem? (l := tables_1_3) (i := 68) rfl))))) rfl
theorem wd_549 : Cond.instanceMethod yX8_fits ∈ BG := bg_of (List.mem_append_right _ (List.mem_append_right _ (List.mem_append_right _ (List.mem_append_left _ (List.mem_of_getElem? (l := tables_1_3) (i := 69) rfl))))) rfl
theorem wd_550 : Cond.selects RX8 yX8_fits yX8_fits ∈ BG := bg_of (List.mem_append_right _ (List.mem_append_right _ (List.mem_append_right _ (List.mem_append_left _ (List.mem_of_getElem? (l := tables_1_3) (i := 70) rfl))))) rfl
theorem wd_551 : Cond.code yX8_fits cX8_fits 9 (some .int) ∈ BG := bg_of (List.mem_append_right _ (List.mem_append_right _ (List.mem_append_right _ (List.mem_append_left _ (List.mem_of_getElem? (l := tables_1_3) (i := 71) rfl))))) rfl
theorem wd_573 : Cond.methodLink RL 79 yX8_joins ∈ BG := bg_of (List.mem_append_right _ (List.mem_append_right _ (List.mem_append_right _ (List.mem_append_left _ (List.mem_of_getElem? (l := tables_1_3) (i := 93) rfl))))) rfl
theorem wd_574 : Cond.instanceMethod yX8_joins ∈ BG := bg_of (List.mem_append_right _ (List.mem_append_right _ (List.mem_append_right _ (List.mem_append_left _ (List.mem_of_getElem? (l := tables_1_3) (i := 94) rfl))))) rfl
theorem wd_575 : Cond.selects RX8 yX8_joins yX8_joins ∈ BG := bg_of (List.mem_append_right _ (List.mem_append_right _ (List.mem_append_right _ (List.mem_append_left _ (List.mem_of_getElem? (l := tables_1_3) (i := 95) rfl))))) rfl
theorem wd_576 : Cond.code yX8_joins cX8_joins 8 (some .int) ∈ BG := bg_of (List.mem_append_right _ (List.mem_append_right _ (List.mem_append_right _ (List.mem_append_left _ (List.mem_of_getElem? (l := tables_1_3) (i := 96) rfl))))) rfl
theorem wd_596 : Cond.methodLink RL 84 yX8_loud ∈ BG := bg_of (List.mem_append_right _ (List.mem_append_right _ (List.mem_append_right _ (List.mem_append_left _ (List.mem_of_getElem? (l := tables_1_3) (i := 116) rfl))))) rfl
theorem wd_597 : Cond.instanceMethod yX8_loud ∈ BG := bg_of (List.mem_append_right _ (List.mem_append_right _ (List.mem_append_right _ (List.mem_append_left _ (List.mem_of_getElem? (l := tables_1_3) (i := 117) rfl))))) rfl
theorem wd_598 : Cond.selects RX8 yX8_loud yX8_loud ∈ BG := bg_of (List.mem_append_right _ (List.mem_append_right _ (List.mem_append_right _ (List.mem_append_left _ (List.mem_of_getElem? (l := tables_1_3) (i := 118) rfl))))) rfl
theorem wd_599 : Cond.code yX8_loud cX8_loud 10 (some .int) ∈ BG := bg_of (List.mem_append_right _ (List.mem_append_right _ (List.mem_append_right _ (List.mem_append_left _ (List.mem_of_getElem? (l := tables_1_3) (i := 119) rfl))))) rfl
theorem wd_600 : Cond.methodLink RL 88 yX8_part ∈ BG := bg_of (List.mem_append_right _ (List.mem_append_right _ (List.mem_append_right _ (List.mem_append_left _ (List.mem_of_getElem? (l := tables_1_3) (i := 120) rfl))))) rfl
theorem wd_601 : Cond.instanceMethod yX8_part ∈ BG := bg_of (List.mem_append_right _ (List.mem_append_right _ (List.mem_append_right _ (List.mem_append_left _ (List.mem_of_getElem? (l := tables_1_3) (i := 121) rfl))))) rfl
theorem wd_602 : Cond.selects RX8 yX8_part yX8_part ∈ BG := bg_of (List.mem_append_right _ (List.mem_append_right _ (List.mem_append_right _ (List.mem_append_left _ (List.mem_of_getElem? (l := tables_1_3) (i := 122) rfl))))) rfl
theorem wd_603 : Cond.code yX8_part cX8_part 2 (some .int) ∈ BG := bg_of (List.mem_append_right _ (List.mem_append_right _ (List.mem_append_right _ (List.mem_append_left _ (List.mem_of_getElem? (l := tables_1_3) (i := 123) rfl))))) rfl
theorem wd_608 : Cond.methodLink RL 92 yX8_reading ∈ BG := bg_of (List.mem_append_right _ (List.mem_append_right _ (List.mem_append_right _ (List.mem_append_left _ (List.mem_of_getElem? (l := tables_1_3) (i := 128) rfl))))) rfl
theorem wd_609 : Cond.instanceMethod yX8_reading ∈ BG := bg_of (List.mem_append_right _ (List.mem_append_right _ (List.mem_append_right _ (List.mem_append_left _ (List.mem_of_getElem? (l := tables_1_3) (i := 129) rfl))))) rfl
theorem wd_610 : Cond.selects RX8 yX8_reading yX8_reading ∈ BG := bg_of (List.mem_append_right _ (List.mem_append_right _ (List.mem_append_right _ (List.mem_append_left _ (List.mem_of_getElem? (l := tables_1_3) (i := 130) rfl))))) rfl
theorem wd_611 : Cond.code yX8_reading cX8_reading 5 (some .int) ∈ BG := bg_of (List.mem_append_right _ (List.mem_append_right _ (List.mem_append_right _ (List.mem_append_left _ (List.mem_of_getElem? (l := tables_1_3) (i := 131) rfl))))) rfl
theorem wd_621 : Cond.methodLink RL 96 yX8_back ∈ BG := bg_of (List.mem_append_right _ (List.mem_append_right _ (List.mem_append_right _ (List.mem_append_left _ (List.mem_of_getElem? (l := tables_1_3) (i := 141) rfl))))) rfl
theorem wd_622 : Cond.instanceMethod yX8_back ∈ BG := bg_of (List.mem_append_right _ (List.mem_append_right _ (List.mem_append_right _ (List.mem_append_left _ (List.mem_of_getElem? (l := tables_1_3) (i := 142) rfl))))) rfl
theorem wd_623 : Cond.selects RX8 yX8_back yX8_back ∈ BG := bg_of (List.mem_append_right _ (List.mem_append_right _ (List.mem_append_right _ (List.mem_append_left _ (List.mem_of_getElem? (l := tables_1_3) (i := 143) rfl))))) rfl
theorem wd_624 : Cond.code yX8_back cX8_back 2 (some .int) ∈ BG := bg_of (List.mem_append_right _ (List.mem_append_right _ (List.mem_append_right _ (List.mem_append_left _ (List.mem_of_getElem? (l := tables_1_3) (i := 144) rfl))))) rfl
theorem wd_625 : Cond.methodLink RL 100 yX8_weights ∈ BG := bg_of (List.mem_append_right _ (List.mem_append_right _ (List.mem_append_right _ (List.mem_append_left _ (List.mem_of_getElem? (l := tables_1_3) (i := 145) rfl))))) rfl
theorem wd_626 : Cond.instanceMethod yX8_weights ∈ BG := bg_of (List.mem_append_right _ (List.mem_append_right _ (List.mem_append_right _ (List.mem_append_left _ (List.mem_of_getElem? (l := tables_1_3) (i := 146) rfl))))) rfl
theorem wd_627 : Cond.selects RX8 yX8_weights yX8_weights ∈ BG := bg_of (List.mem_append_right _ (List.mem_append_right _ (List.mem_append_right _ (List.mem_append_left _ (List.mem_of_getElem? (l := tables_1_3) (i := 147) rfl))))) rfl
theorem wd_628 : Cond.code yX8_weights cX8_weights 2 (some .int) ∈ BG := bg_of (List.mem_append_right _ (List.mem_append_right _ (List.mem_append_right _ (List.mem_append_left _ (List.mem_of_getElem? (l := tables_1_3) (i := 148) rfl))))) rfl
theorem wd_639 : Cond.methodLink RL 104 yX8_kinds ∈ BG := bg_of (List.mem_append_right _ (List.mem_append_right _ (List.mem_append_right _ (List.mem_append_left _ (List.mem_of_getElem? (l := tables_1_3) (i := 159) rfl))))) rfl
theorem wd_640 : Cond.instanceMethod yX8_kinds ∈ BG := bg_of (List.mem_append_right _ (List.mem_append_right _ (List.mem_append_right _ (List.mem_append_left _ (List.mem_of_getElem? (l := tables_1_3) (i := 160) rfl))))) rfl
theorem wd_641 : Cond.selects RX8 yX8_kinds yX8_kinds ∈ BG := bg_of (List.mem_append_right _ (List.mem_append_right _ (List.mem_append_right _ (List.mem_append_left _ (List.mem_of_getElem? (l := tables_1_3) (i := 161) rfl))))) rfl
theorem wd_642 : Cond.code yX8_kinds cX8_kinds 2 (some .int) ∈ BG := bg_of (List.mem_append_right _ (List.mem_append_right _ (List.mem_append_right _ (List.mem_append_left _ (List.mem_of_getElem? (l := tables_1_3) (i := 162) rfl))))) rfl
theorem wd_643 : Cond.methodLink RL 108 yX8_creaks ∈ BG := bg_of (List.mem_append_right _ (List.mem_append_right _ (List.mem_append_right _ (List.mem_append_left _ (List.mem_of_getElem? (l := tables_1_3) (i := 163) rfl))))) rfl
theorem wd_644 : Cond.instanceMethod yX8_creaks ∈ BG := bg_of (List.mem_append_right _ (List.mem_append_right _ (List.mem_append_right _ (List.mem_append_left _ (List.mem_of_getElem? (l := tables_1_3) (i := 164) rfl))))) rfl
theorem wd_645 : Cond.selects RX8 yX8_creaks yX8_creaks ∈ BG := bg_of (List.mem_append_right _ (List.mem_append_right _ (List.mem_append_right _ (List.mem_append_left _ (List.mem_of_getElem? (l := tables_1_3) (i := 165) rfl))))) rfl
theorem wd_646 : Cond.code yX8_creaks cX8_creaks 2 (some .int) ∈ BG := bg_of (List.mem_append_right _ (List.mem_append_right _ (List.mem_append_right _ (List.mem_append_left _ (List.mem_of_getElem? (l := tables_1_3) (i := 166) rfl))))) rfl
theorem wd_647 : Cond.methodLink RL 112 yX8_odds ∈ BG := bg_of (List.mem_append_right _ (List.mem_append_right _ (List.mem_append_right _ (List.mem_append_left _ (List.mem_of_getElem? (l := tables_1_3) (i := 167) rfl))))) rfl
theorem wd_648 : Cond.instanceMethod yX8_odds ∈ BG := bg_of (List.mem_append_right _ (List.mem_append_right _ (List.mem_append_right _ (List.mem_append_left _ (List.mem_of_getElem? (l := tables_1_3) (i := 168) rfl))))) rfl
theorem wd_649 : Cond.selects RX8 yX8_odds yX8_odds ∈ BG := bg_of (List.mem_append_right _ (List.mem_append_right _ (List.mem_append_right _ (List.mem_append_left _ (List.mem_of_getElem? (l := tables_1_3) (i := 169) rfl))))) rfl
theorem wd_650 : Cond.code yX8_odds cX8_odds 7 (some .long) ∈ BG := bg_of (List.mem_append_right _ (List.mem_append_right _ (List.mem_append_right _ (List.mem_append_left _ (List.mem_of_getElem? (l := tables_1_3) (i := 170) rfl))))) rfl
theorem wd_659 : Cond.methodLink RL 117 yX8_sheet ∈ BG := bg_of (List.mem_append_right _ (List.mem_append_right _ (List.mem_append_right _ (List.mem_append_left _ (List.mem_of_getElem? (l := tables_1_3) (i := 179) rfl))))) rfl
theorem wd_660 : Cond.instanceMethod yX8_sheet ∈ BG := bg_of (List.mem_append_right _ (List.mem_append_right _ (List.mem_append_right _ (List.mem_append_left _ (List.mem_of_getElem? (l := tables_1_3) (i := 180) rfl))))) rfl
theorem wd_661 : Cond.selects RX8 yX8_sheet yX8_sheet ∈ BG := bg_of (List.mem_append_right _ (List.mem_append_right _ (List.mem_append_right _ (List.mem_append_left _ (List.mem_of_getElem? (l := tables_1_3) (i := 181) rfl))))) rfl
theorem wd_662 : Cond.code yX8_sheet cX8_sheet 4 (some .int) ∈ BG := bg_of (List.mem_append_right _ (List.mem_append_right _ (List.mem_append_right _ (List.mem_append_left _ (List.mem_of_getElem? (l := tables_1_3) (i := 182) rfl))))) rfl
theorem wd_667 : Cond.methodLink RL 121 yX8_lose ∈ BG := bg_of (List.mem_append_right _ (List.mem_append_right _ (List.mem_append_right _ (List.mem_append_left _ (List.mem_of_getElem? (l := tables_1_3) (i := 187) rfl))))) rfl
theorem wd_668 : Cond.instanceMethod yX8_lose ∈ BG := bg_of (List.mem_append_right _ (List.mem_append_right _ (List.mem_append_right _ (List.mem_append_left _ (List.mem_of_getElem? (l := tables_1_3) (i := 188) rfl))))) rfl
theorem wd_669 : Cond.selects RX8 yX8_lose yX8_lose ∈ BG := bg_of (List.mem_append_right _ (List.mem_append_right _ (List.mem_append_right _ (List.mem_append_left _ (List.mem_of_getElem? (l := tables_1_3) (i := 189) rfl))))) rfl
theorem wd_670 : Cond.code yX8_lose cX8_lose 2 (some .int) ∈ BG := bg_of (List.mem_append_right _ (List.mem_append_right _ (List.mem_append_right _ (List.mem_append_left _ (List.mem_of_getElem? (l := tables_1_3) (i := 190) rfl))))) rfl
theorem wd_676 : Cond.methodLink RL 125 yX8_put ∈ BG := bg_of (List.mem_append_right _ (List.mem_append_right _ (List.mem_append_right _ (List.mem_append_left _ (List.mem_of_getElem? (l := tables_1_3) (i := 196) rfl))))) rfl
theorem wd_677 : Cond.instanceMethod yX8_put ∈ BG := bg_of (List.mem_append_right _ (List.mem_append_right _ (List.mem_append_right _ (List.mem_append_left _ (List.mem_of_getElem? (l := tables_1_3) (i := 197) rfl))))) rfl
theorem wd_678 : Cond.selects RX8 yX8_put yX8_put ∈ BG := bg_of (List.mem_append_right _ (List.mem_append_right _ (List.mem_append_right _ (List.mem_append_left _ (List.mem_of_getElem? (l := tables_1_3) (i := 198) rfl))))) rfl
theorem wd_679 : Cond.code yX8_put cX8_put 4 (some .int) ∈ BG := bg_of (List.mem_append_right _ (List.mem_append_right _ (List.mem_append_right _ (List.mem_append_left _ (List.mem_of_getElem? (l := tables_1_3) (i := 199) rfl))))) rfl
theorem wd_688 : Cond.methodLink RL 129 yX8_cell ∈ BG := bg_of (List.mem_append_right _ (List.mem_append_right _ (List.mem_append_right _ (List.mem_append_left _ (List.mem_of_getElem? (l := tables_1_3) (i := 208) rfl))))) rfl
theorem wd_689 : Cond.instanceMethod yX8_cell ∈ BG := bg_of (List.mem_append_right _ (List.mem_append_right _ (List.mem_append_right _ (List.mem_append_left _ (List.mem_of_getElem? (l := tables_1_3) (i := 209) rfl))))) rfl
theorem wd_690 : Cond.selects RX8 yX8_cell yX8_cell ∈ BG := bg_of (List.mem_append_right _ (List.mem_append_right _ (List.mem_append_right _ (List.mem_append_left _ (List.mem_of_getElem? (l := tables_1_3) (i := 210) rfl))))) rfl
theorem wd_691 : Cond.code yX8_cell cX8_cell 4 (some .long) ∈ BG := bg_of (List.mem_append_right _ (List.mem_append_right _ (List.mem_append_right _ (List.mem_append_left _ (List.mem_of_getElem? (l := tables_1_3) (i := 211) rfl))))) rfl
theorem wd_692 : Cond.methodLink RL 133 yX8_copy ∈ BG := bg_of (List.mem_append_right _ (List.mem_append_right _ (List.mem_append_right _ (List.mem_append_left _ (List.mem_of_getElem? (l := tables_1_3) (i := 212) rfl))))) rfl
theorem wd_693 : Cond.instanceMethod yX8_copy ∈ BG := bg_of (List.mem_append_right _ (List.mem_append_right _ (List.mem_append_right _ (List.mem_append_left _ (List.mem_of_getElem? (l := tables_1_3) (i := 213) rfl))))) rfl
theorem wd_694 : Cond.selects RX8 yX8_copy yX8_copy ∈ BG := bg_of (List.mem_append_right _ (List.mem_append_right _ (List.mem_append_right _ (List.mem_append_left _ (List.mem_of_getElem? (l := tables_1_3) (i := 214) rfl))))) rfl
theorem wd_695 : Cond.code yX8_copy cX8_copy 6 (some .int) ∈ BG := bg_of (List.mem_append_right _ (List.mem_append_right _ (List.mem_append_right _ (List.mem_append_left _ (List.mem_of_getElem? (l := tables_1_3) (i := 215) rfl))))) rfl
theorem wd_700 : Cond.methodLink RL 137 yX8_tell ∈ BG := bg_of (List.mem_append_right _ (List.mem_append_right _ (List.mem_append_right _ (List.mem_append_left _ (List.mem_of_getElem? (l := tables_1_3) (i := 220) rfl))))) rfl
theorem wd_701 : Cond.instanceMethod yX8_tell ∈ BG := bg_of (List.mem_append_right _ (List.mem_append_right _ (List.mem_append_right _ (List.mem_append_left _ (List.mem_of_getElem? (l := tables_1_3) (i := 221) rfl))))) rfl
theorem wd_702 : Cond.selects RX8 yX8_tell yX8_tell ∈ BG := bg_of (List.mem_append_right _ (List.mem_append_right _ (List.mem_append_right _ (List.mem_append_left _ (List.mem_of_getElem? (l := tables_1_3) (i := 222) rfl))))) rfl
theorem wd_703 : Cond.code yX8_tell cX8_tell 3 (some .int) ∈ BG := bg_of (List.mem_append_right _ (List.mem_append_right _ (List.mem_append_right _ (List.mem_append_left _ (List.mem_of_getElem? (l := tables_1_3) (i := 223) rfl))))) rfl
theorem wd_720 : Cond.methodLink RL 141 yX8_hear ∈ BG := bg_of (List.mem_append_right _ (List.mem_append_right _ (List.mem_append_right _ (List.mem_append_right _ (List.mem_append_left _ (List.mem_of_getElem? (l := tables_1_4) (i := 0) rfl)))))) rfl
theorem wd_721 : Cond.instanceMethod yX8_hear ∈ BG := bg_of (List.mem_append_right _ (List.mem_append_right _ (List.mem_append_right _ (List.mem_append_right _ (List.mem_append_left _ (List.mem_of_getElem? (l := tables_1_4) (i := 1) rfl)))))) rfl
theorem wd_722 : Cond.selects RX8 yX8_hear yX8_hear ∈ BG := bg_of (List.mem_append_right _ (List.mem_append_right _ (List.mem_append_right _ (List.mem_append_right _ (List.mem_append_left _ (List.mem_of_getElem? (l := tables_1_4) (i := 2) rfl)))))) rfl
theorem wd_723 : Cond.code yX8_hear cX8_hear 2 (some .int) ∈ BG := bg_of (List.mem_append_right _ (List.mem_append_right _ (List.mem_append_right _ (List.mem_append_right _ (List.mem_append_left _ (List.mem_of_getElem? (l := tables_1_4) (i := 3) rfl)))))) rfl
theorem wd_724 : Cond.methodLink RL 145 yX8_as ∈ BG := bg_of (List.mem_append_right _ (List.mem_append_right _ (List.mem_append_right _ (List.mem_append_right _ (List.mem_append_left _ (List.mem_of_getElem? (l := tables_1_4) (i := 4) rfl)))))) rfl
theorem wd_725 : Cond.instanceMethod yX8_as ∈ BG := bg_of (List.mem_append_right _ (List.mem_append_right _ (List.mem_append_right _ (List.mem_append_right _ (List.mem_append_left _ (List.mem_of_getElem? (l := tables_1_4) (i := 5) rfl)))))) rfl
theorem wd_726 : Cond.selects RX8 yX8_as yX8_as ∈ BG := bg_of (List.mem_append_right _ (List.mem_append_right _ (List.mem_append_right _ (List.mem_append_right _ (List.mem_append_left _ (List.mem_of_getElem? (l := tables_1_4) (i := 6) rfl)))))) rfl
theorem wd_727 : Cond.code yX8_as cX8_as 3 (some .int) ∈ BG := bg_of (List.mem_append_right _ (List.mem_append_right _ (List.mem_append_right _ (List.mem_append_right _ (List.mem_append_left _ (List.mem_of_getElem? (l := tables_1_4) (i := 7) rfl)))))) rfl
theorem wd_728 : Cond.methodLink RL 149 yX8_trace ∈ BG := bg_of (List.mem_append_right _ (List.mem_append_right _ (List.mem_append_right _ (List.mem_append_right _ (List.mem_append_left _ (List.mem_of_getElem? (l := tables_1_4) (i := 8) rfl)))))) rfl
theorem wd_729 : Cond.instanceMethod yX8_trace ∈ BG := bg_of (List.mem_append_right _ (List.mem_append_right _ (List.mem_append_right _ (List.mem_append_right _ (List.mem_append_left _ (List.mem_of_getElem? (l := tables_1_4) (i := 9) rfl)))))) rfl
theorem wd_730 : Cond.selects RX8 yX8_trace yX8_trace ∈ BG := bg_of (List.mem_append_right _ (List.mem_append_right _ (List.mem_append_right _ (List.mem_append_right _ (List.mem_append_left _ (List.mem_of_getElem? (l := tables_1_4) (i := 10) rfl)))))) rfl
theorem wd_731 : Cond.code yX8_trace cX8_trace 1 (some .int) ∈ BG := bg_of (List.mem_append_right _ (List.mem_append_right _ (List.mem_append_right _ (List.mem_append_right _ (List.mem_append_left _ (List.mem_of_getElem? (l := tables_1_4) (i := 11) rfl)))))) rfl
theorem wd_732 : Cond.methodLink RL 153 yX8_fault ∈ BG := bg_of (List.mem_append_right _ (List.mem_append_right _ (List.mem_append_right _ (List.mem_append_right _ (List.mem_append_left _ (List.mem_of_getElem? (l := tables_1_4) (i := 12) rfl)))))) rfl
theorem wd_733 : Cond.instanceMethod yX8_fault ∈ BG := bg_of (List.mem_append_right _ (List.mem_append_right _ (List.mem_append_right _ (List.mem_append_right _ (List.mem_append_left _ (List.mem_of_getElem? (l := tables_1_4) (i := 13) rfl)))))) rfl
theorem wd_734 : Cond.selects RX8 yX8_fault yX8_fault ∈ BG := bg_of (List.mem_append_right _ (List.mem_append_right _ (List.mem_append_right _ (List.mem_append_right _ (List.mem_append_left _ (List.mem_of_getElem? (l := tables_1_4) (i := 14) rfl)))))) rfl
theorem wd_735 : Cond.code yX8_fault cX8_fault 1 (some .int) ∈ BG := bg_of (List.mem_append_right _ (List.mem_append_right _ (List.mem_append_right _ (List.mem_append_right _ (List.mem_append_left _ (List.mem_of_getElem? (l := tables_1_4) (i := 15) rfl)))))) rfl
theorem wd_736 : Cond.methodLink RL 157 yX8_many ∈ BG := bg_of (List.mem_append_right _ (List.mem_append_right _ (List.mem_append_right _ (List.mem_append_right _ (List.mem_append_left _ (List.mem_of_getElem? (l := tables_1_4) (i := 16) rfl)))))) rfl
theorem wd_737 : Cond.instanceMethod yX8_many ∈ BG := bg_of (List.mem_append_right _ (List.mem_append_right _ (List.mem_append_right _ (List.mem_append_right _ (List.mem_append_left _ (List.mem_of_getElem? (l := tables_1_4) (i := 17) rfl)))))) rfl
theorem wd_738 : Cond.selects RX8 yX8_many yX8_many ∈ BG := bg_of (List.mem_append_right _ (List.mem_append_right _ (List.mem_append_right _ (List.mem_append_right _ (List.mem_append_left _ (List.mem_of_getElem? (l := tables_1_4) (i := 18) rfl)))))) rfl
theorem wd_739 : Cond.code yX8_many cX8_many 2 (some .int) ∈ BG := bg_of (List.mem_append_right _ (List.mem_append_right _ (List.mem_append_right _ (List.mem_append_right _ (List.mem_append_left _ (List.mem_of_getElem? (l := tables_1_4) (i := 19) rfl)))))) rfl
theorem wd_740 : Cond.classLink RL 10 RX9 ∈ BG := bg_of (List.mem_append_right _ (List.mem_append_right _ (List.mem_append_right _ (List.mem_append_right _ (List.mem_append_left _ (List.mem_of_getElem? (l := tables_1_4) (i := 20) rfl)))))) rfl
theorem wd_741 : Cond.instantiable RX9 40 ∈ BG := bg_of (List.mem_append_right _ (List.mem_append_right _ (List.mem_append_right _ (List.mem_append_right _ (List.mem_append_left _ (List.mem_of_getElem? (l := tables_1_4) (i := 21) rfl)))))) rfl
theorem wd_742 : Cond.methodLink RL 12 yX9_init ∈ BG := bg_of (List.mem_append_right _ (List.mem_append_right _ (List.mem_append_right _ (List.mem_append_right _ (List.mem_append_left _ (List.mem_of_getElem? (l := tables_1_4) (i := 22) rfl)))))) rfl
theorem wd_743 : Cond.instanceMethod yX9_init ∈ BG := bg_of (List.mem_append_right _ (List.mem_append_right _ (List.mem_append_right _ (List.mem_append_right _ (List.mem_append_left _ (List.mem_of_getElem? (l := tables_1_4) (i := 23) rfl)))))) rfl
theorem wd_744 : Cond.code yX9_init cX9_init 1 none ∈ BG := bg_of (List.mem_append_right _ (List.mem_append_right _ (List.mem_append_right _ (List.mem_append_right _ (List.mem_append_left _ (List.mem_of_getElem? (l := tables_1_4) (i := 24) rfl)))))) rfl
theorem wd_867 : Cond.methodLink RL 17 yX9_house ∈ BG := bg_of (List.mem_append_right _ (List.mem_append_right _ (List.mem_append_right _ (List.mem_append_right _ (List.mem_append_left _ (List.mem_of_getElem? (l := tables_1_4) (i := 147) rfl)))))) rfl
theorem wd_868 : Cond.instanceMethod yX9_house ∈ BG := bg_of (List.mem_append_right _ (List.mem_append_right _ (List.mem_append_right _ (List.mem_append_right _ (List.mem_append_left _ (List.mem_of_getElem? (l := tables_1_4) (i := 148) rfl)))))) rfl
theorem wd_869 : Cond.selects RX9 yX9_house yX9_house ∈ BG := bg_of (List.mem_append_right _ (List.mem_append_right _ (List.mem_append_right _ (List.mem_append_right _ (List.mem_append_left _ (List.mem_of_getElem? (l := tables_1_4) (i := 149) rfl)))))) rfl
theorem wd_870 : Cond.code yX9_house cX9_house 7 (some .int) ∈ BG := bg_of (List.mem_append_right _ (List.mem_append_right _ (List.mem_append_right _ (List.mem_append_right _ (List.mem_append_left _ (List.mem_of_getElem? (l := tables_1_4) (i := 150) rfl)))))) rfl
theorem wd_912 : Cond.methodLink RL 22 yX9_ofDoer ∈ BG := bg_of (List.mem_append_right _ (List.mem_append_right _ (List.mem_append_right _ (List.mem_append_right _ (List.mem_append_left _ (List.mem_of_getElem? (l := tables_1_4) (i := 192) rfl)))))) rfl
theorem wd_913 : Cond.instanceMethod yX9_ofDoer ∈ BG := bg_of (List.mem_append_right _ (List.mem_append_right _ (List.mem_append_right _ (List.mem_append_right _ (List.mem_append_left _ (List.mem_of_getElem? (l := tables_1_4) (i := 193) rfl)))))) rfl
theorem wd_914 : Cond.selects RX9 yX9_ofDoer yX9_ofDoer ∈ BG := bg_of (List.mem_append_right _ (List.mem_append_right _ (List.mem_append_right _ (List.mem_append_right _ (List.mem_append_left _ (List.mem_of_getElem? (l := tables_1_4) (i := 194) rfl)))))) rfl
theorem wd_915 : Cond.code yX9_ofDoer cX9_ofDoer 3 (some .int) ∈ BG := bg_of (List.mem_append_right _ (List.mem_append_right _ (List.mem_append_right _ (List.mem_append_right _ (List.mem_append_left _ (List.mem_of_getElem? (l := tables_1_4) (i := 195) rfl)))))) rfl
theorem wd_932 : Cond.methodLink RL 26 yX9_ofPen ∈ BG := bg_of (List.mem_append_right _ (List.mem_append_right _ (List.mem_append_right _ (List.mem_append_right _ (List.mem_append_left _ (List.mem_of_getElem? (l := tables_1_4) (i := 212) rfl)))))) rfl
theorem wd_933 : Cond.instanceMethod yX9_ofPen ∈ BG := bg_of (List.mem_append_right _ (List.mem_append_right _ (List.mem_append_right _ (List.mem_append_right _ (List.mem_append_left _ (List.mem_of_getElem? (l := tables_1_4) (i := 213) rfl)))))) rfl
theorem wd_934 : Cond.selects RX9 yX9_ofPen yX9_ofPen ∈ BG := bg_of (List.mem_append_right _ (List.mem_append_right _ (List.mem_append_right _ (List.mem_append_right _ (List.mem_append_left _ (List.mem_of_getElem? (l := tables_1_4) (i := 214) rfl)))))) rfl
theorem wd_935 : Cond.code yX9_ofPen cX9_ofPen 3 (some .int) ∈ BG := bg_of (List.mem_append_right _ (List.mem_append_right _ (List.mem_append_right _ (List.mem_append_right _ (List.mem_append_left _ (List.mem_of_getElem? (l := tables_1_4) (i := 215) rfl)))))) rfl
theorem wd_940 : Cond.methodLink RL 31 yX9_creak ∈ BG := bg_of (List.mem_append_right _ (List.mem_append_right _ (List.mem_append_right _ (List.mem_append_right _ (List.mem_append_left _ (List.mem_of_getElem? (l := tables_1_4) (i := 220) rfl)))))) rfl
theorem wd_941 : Cond.instanceMethod yX9_creak ∈ BG := bg_of (List.mem_append_right _ (List.mem_append_right _ (List.mem_append_right _ (List.mem_append_right _ (List.mem_append_left _ (List.mem_of_getElem? (l := tables_1_4) (i := 221) rfl)))))) rfl
theorem wd_942 : Cond.selects RX9 yX9_creak yX9_creak ∈ BG := bg_of (List.mem_append_right _ (List.mem_append_right _ (List.mem_append_right _ (List.mem_append_right _ (List.mem_append_left _ (List.mem_of_getElem? (l := tables_1_4) (i := 222) rfl)))))) rfl
theorem wd_943 : Cond.code yX9_creak cX9_creak 2 (some .int) ∈ BG := bg_of (List.mem_append_right _ (List.mem_append_right _ (List.mem_append_right _ (List.mem_append_right _ (List.mem_append_left _ (List.mem_of_getElem? (l := tables_1_4) (i := 223) rfl)))))) rfl
theorem wd_944 : Cond.methodLink RL 35 yX9_oil ∈ BG := bg_of (List.mem_append_right _ (List.mem_append_right _ (List.mem_append_right _ (List.mem_append_right _ (List.mem_append_left _ (List.mem_of_getElem? (l := tables_1_4) (i := 224) rfl)))))) rfl
theorem wd_945 : Cond.instanceMethod yX9_oil ∈ BG := bg_of (List.mem_append_right _ (List.mem_append_right _ (List.mem_append_right _ (List.mem_append_right _ (List.mem_append_left _ (List.mem_of_getElem? (l := tables_1_4) (i := 225) rfl)))))) rfl
theorem wd_946 : Cond.selects RX9 yX9_oil yX9_oil ∈ BG := bg_of (List.mem_append_right _ (List.mem_append_right _ (List.mem_append_right _ (List.mem_append_right _ (List.mem_append_left _ (List.mem_of_getElem? (l := tables_1_4) (i := 226) rfl)))))) rfl
theorem wd_947 : Cond.code yX9_oil cX9_oil 4 (some .int) ∈ BG := bg_of (List.mem_append_right _ (List.mem_append_right _ (List.mem_append_right _ (List.mem_append_right _ (List.mem_append_left _ (List.mem_of_getElem? (l := tables_1_4) (i := 227) rfl)))))) rfl
theorem wd_951 : Cond.methodLink RL 39 yX9_dine ∈ BG := bg_of (List.mem_append_right _ (List.mem_append_right _ (List.mem_append_right _ (List.mem_append_right _ (List.mem_append_left _ (List.mem_of_getElem? (l := tables_1_4) (i := 231) rfl)))))) rfl
theorem wd_952 : Cond.instanceMethod yX9_dine ∈ BG := bg_of (List.mem_append_right _ (List.mem_append_right _ (List.mem_append_right _ (List.mem_append_right _ (List.mem_append_left _ (List.mem_of_getElem? (l := tables_1_4) (i := 232) rfl)))))) rfl
theorem wd_953 : Cond.selects RX9 yX9_dine yX9_dine ∈ BG := bg_of (List.mem_append_right _ (List.mem_append_right _ (List.mem_append_right _ (List.mem_append_right _ (List.mem_append_left _ (List.mem_of_getElem? (l := tables_1_4) (i := 233) rfl)))))) rfl
theorem wd_954 : Cond.code yX9_dine cX9_dine 4 (some .int) ∈ BG := bg_of (List.mem_append_right _ (List.mem_append_right _ (List.mem_append_right _ (List.mem_append_right _ (List.mem_append_left _ (List.mem_of_getElem? (l := tables_1_4) (i := 234) rfl)))))) rfl
theorem wd_955 : Cond.methodLink RL 43 yX9_carry ∈ BG := bg_of (List.mem_append_right _ (List.mem_append_right _ (List.mem_append_right _ (List.mem_append_right _ (List.mem_append_left _ (List.mem_of_getElem? (l := tables_1_4) (i := 235) rfl)))))) rfl
theorem wd_956 : Cond.instanceMethod yX9_carry ∈ BG := bg_of (List.mem_append_right _ (List.mem_append_right _ (List.mem_append_right _ (List.mem_append_right _ (List.mem_append_left _ (List.mem_of_getElem? (l := tables_1_4) (i := 236) rfl)))))) rfl
theorem wd_957 : Cond.selects RX9 yX9_carry yX9_carry ∈ BG := bg_of (List.mem_append_right _ (List.mem_append_right _ (List.mem_append_right _ (List.mem_append_right _ (List.mem_append_left _ (List.mem_of_getElem? (l := tables_1_4) (i := 237) rfl)))))) rfl
theorem wd_958 : Cond.code yX9_carry cX9_carry 4 (some .int) ∈ BG := bg_of (List.mem_append_right _ (List.mem_append_right _ (List.mem_append_right _ (List.mem_append_right _ (List.mem_append_left _ (List.mem_of_getElem? (l := tables_1_4) (i := 238) rfl)))))) rfl
theorem wd_959 : Cond.methodLink RL 47 yX9_leap ∈ BG := bg_of (List.mem_append_right _ (List.mem_append_right _ (List.mem_append_right _ (List.mem_append_right _ (List.mem_append_left _ (List.mem_of_getElem? (l := tables_1_4) (i := 239) rfl)))))) rfl
theorem wd_960 : Cond.instanceMethod yX9_leap ∈ BG := bg_of (List.mem_append_right _ (List.mem_append_right _ (List.mem_append_right _ (List.mem_append_right _ (List.mem_append_right _ (List.mem_of_getElem? (l := tables_1_5) (i := 0) rfl)))))) rfl
theorem wd_961 : Cond.selects RX9 yX9_leap yX9_leap ∈ BG := bg_of (List.mem_append_right _ (List.mem_append_right _ (List.mem_append_right _ (List.mem_append_right _ (List.mem_append_right _ (List.mem_of_getElem? (l := tables_1_5) (i := 1) rfl)))))) rfl
theorem wd_962 : Cond.code yX9_leap cX9_leap 3 (some .int) ∈ BG := bg_of (List.mem_append_right _ (List.mem_append_right _ (List.mem_append_right _ (List.mem_append_right _ (List.mem_append_right _ (List.mem_of_getElem? (l := tables_1_5) (i := 2) rfl)))))) rfl
theorem wd_963 : Cond.methodLink RL 52 yX9_bump ∈ BG := bg_of (List.mem_append_right _ (List.mem_append_right _ (List.mem_append_right _ (List.mem_append_right _ (List.mem_append_right _ (List.mem_of_getElem? (l := tables_1_5) (i := 3) rfl)))))) rfl
theorem wd_964 : Cond.instanceMethod yX9_bump ∈ BG := bg_of (List.mem_append_right _ (List.mem_append_right _ (List.mem_append_right _ (List.mem_append_right _ (List.mem_append_right _ (List.mem_of_getElem? (l := tables_1_5) (i := 4) rfl)))))) rfl
theorem wd_965 : Cond.selects RX9 yX9_bump yX9_bump ∈ BG := bg_of (List.mem_append_right _ (List.mem_append_right _ (List.mem_append_right _ (List.mem_append_right _ (List.mem_append_right _ (List.mem_of_getElem? (l := tables_1_5) (i := 5) rfl)))))) rfl
theorem wd_966 : Cond.code yX9_bump cX9_bump 5 (some .int) ∈ BG := bg_of (List.mem_append_right _ (List.mem_append_right _ (List.mem_append_right _ (List.mem_append_right _ (List.mem_append_right _ (List.mem_of_getElem? (l := tables_1_5) (i := 6) rfl)))))) rfl
theorem wd_978 : Cond.methodLink RL 56 yX9_step ∈ BG := bg_of (List.mem_append_right _ (List.mem_append_right _ (List.mem_append_right _ (List.mem_append_right _ (List.mem_append_right _ (List.mem_of_getElem? (l := tables_1_5) (i := 18) rfl)))))) rfl
theorem wd_979 : Cond.instanceMethod yX9_step ∈ BG := bg_of (List.mem_append_right _ (List.mem_append_right _ (List.mem_append_right _ (List.mem_append_right _ (List.mem_append_right _ (List.mem_of_getElem? (l := tables_1_5) (i := 19) rfl)))))) rfl
theorem wd_980 : Cond.selects RX9 yX9_step yX9_step ∈ BG := bg_of (List.mem_append_right _ (List.mem_append_right _ (List.mem_append_right _ (List.mem_append_right _ (List.mem_append_right _ (List.mem_of_getElem? (l := tables_1_5) (i := 20) rfl)))))) rfl
theorem wd_981 : Cond.code yX9_step cX9_step 6 (some .int) ∈ BG := bg_of (List.mem_append_right _ (List.mem_append_right _ (List.mem_append_right _ (List.mem_append_right _ (List.mem_append_right _ (List.mem_of_getElem? (l := tables_1_5) (i := 21) rfl)))))) rfl
theorem wd_982 : Cond.methodLink RL 61 yX9_paper ∈ BG := bg_of (List.mem_append_right _ (List.mem_append_right _ (List.mem_append_right _ (List.mem_append_right _ (List.mem_append_right _ (List.mem_of_getElem? (l := tables_1_5) (i := 22) rfl)))))) rfl
theorem wd_983 : Cond.instanceMethod yX9_paper ∈ BG := bg_of (List.mem_append_right _ (List.mem_append_right _ (List.mem_append_right _ (List.mem_append_right _ (List.mem_append_right _ (List.mem_of_getElem? (l := tables_1_5) (i := 23) rfl)))))) rfl
theorem wd_984 : Cond.selects RX9 yX9_paper yX9_paper ∈ BG := bg_of (List.mem_append_right _ (List.mem_append_right _ (List.mem_append_right _ (List.mem_append_right _ (List.mem_append_right _ (List.mem_of_getElem? (l := tables_1_5) (i := 24) rfl)))))) rfl
theorem wd_985 : Cond.code yX9_paper cX9_paper 3 (some .int) ∈ BG := bg_of (List.mem_append_right _ (List.mem_append_right _ (List.mem_append_right _ (List.mem_append_right _ (List.mem_append_right _ (List.mem_of_getElem? (l := tables_1_5) (i := 25) rfl)))))) rfl
theorem wd_986 : Cond.methodLink RL 66 yX9_night ∈ BG := bg_of (List.mem_append_right _ (List.mem_append_right _ (List.mem_append_right _ (List.mem_append_right _ (List.mem_append_right _ (List.mem_of_getElem? (l := tables_1_5) (i := 26) rfl)))))) rfl
theorem wd_987 : Cond.instanceMethod yX9_night ∈ BG := bg_of (List.mem_append_right _ (List.mem_append_right _ (List.mem_append_right _ (List.mem_append_right _ (List.mem_append_right _ (List.mem_of_getElem? (l := tables_1_5) (i := 27) rfl)))))) rfl
theorem wd_988 : Cond.selects RX9 yX9_night yX9_night ∈ BG := bg_of (List.mem_append_right _ (List.mem_append_right _ (List.mem_append_right _ (List.mem_append_right _ (List.mem_append_right _ (List.mem_of_getElem? (l := tables_1_5) (i := 28) rfl)))))) rfl
theorem wd_989 : Cond.code yX9_night cX9_night 10 (some .int) ∈ BG := bg_of (List.mem_append_right _ (List.mem_append_right _ (List.mem_append_right _ (List.mem_append_right _ (List.mem_append_right _ (List.mem_of_getElem? (l := tables_1_5) (i := 29) rfl)))))) rfl
theorem wd_998 : Cond.methodLink RL 70 yX9_quiet ∈ BG := bg_of (List.mem_append_right _ (List.mem_append_right _ (List.mem_append_right _ (List.mem_append_right _ (List.mem_append_right _ (List.mem_of_getElem? (l := tables_1_5) (i := 38) rfl)))))) rfl
theorem wd_999 : Cond.instanceMethod yX9_quiet ∈ BG := bg_of (List.mem_append_right _ (List.mem_append_right _ (List.mem_append_right _ (List.mem_append_right _ (List.mem_append_right _ (List.mem_of_getElem? (l := tables_1_5) (i := 39) rfl)))))) rfl
theorem wd_1000 : Cond.selects RX9 yX9_quiet yX9_quiet ∈ BG := bg_of (List.mem_append_right _ (List.mem_append_right _ (List.mem_append_right _ (List.mem_append_right _ (List.mem_append_right _ (List.mem_of_getElem? (l := tables_1_5) (i := 40) rfl)))))) rfl
theorem wd_1001 : Cond.code yX9_quiet cX9_quiet 7 (some .int) ∈ BG := bg_of (List.mem_append_right _ (List.mem_append_right _ (List.mem_append_right _ (List.mem_append_right _ (List.mem_append_right _ (List.mem_of_getElem? (l := tables_1_5) (i := 41) rfl)))))) rfl
theorem wd_1019 : Cond.methodLink RL 74 yX9_meet ∈ BG := bg_of (List.mem_append_right _ (List.mem_append_right _ (List.mem_append_right _ (List.mem_append_right _ (List.mem_append_right _ (List.mem_of_getElem? (l := tables_1_5) (i := 59) rfl)))))) rfl
theorem wd_1020 : Cond.instanceMethod yX9_meet ∈ BG := bg_of (List.mem_append_right _ (List.mem_append_right _ (List.mem_append_right _ (List.mem_append_right _ (List.mem_append_right _ (List.mem_of_getElem? (l := tables_1_5) (i := 60) rfl)))))) rfl
theorem wd_1021 : Cond.selects RX9 yX9_meet yX9_meet ∈ BG := bg_of (List.mem_append_right _ (List.mem_append_right _ (List.mem_append_right _ (List.mem_append_right _ (List.mem_append_right _ (List.mem_of_getElem? (l := tables_1_5) (i := 61) rfl)))))) rfl
theorem wd_1022 : Cond.code yX9_meet cX9_meet 8 (some .int) ∈ BG := bg_of (List.mem_append_right _ (List.mem_append_right _ (List.mem_append_right _ (List.mem_append_right _ (List.mem_append_right _ (List.mem_of_getElem? (l := tables_1_5) (i := 62) rfl)))))) rfl
theorem wd_1023 : Cond.methodLink RL 78 yX9_fits ∈ BG := bg_of (List.mem_append_right _ (List.mem_append_right _ (List.mem_append_right _ (List.mem_append_right _ (List.mem_append_right _ (List.mem_of_getElem? (l := tables_1_5) (i := 63) rfl)))))) rfl
theorem wd_1024 : Cond.instanceMethod yX9_fits ∈ BG := bg_of (List.mem_append_right _ (List.mem_append_right _ (List.mem_append_right _ (List.mem_append_right _ (List.mem_append_right _ (List.mem_of_getElem? (l := tables_1_5) (i := 64) rfl)))))) rfl
theorem wd_1025 : Cond.selects RX9 yX9_fits yX9_fits ∈ BG := bg_of (List.mem_append_right _ (List.mem_append_right _ (List.mem_append_right _ (List.mem_append_right _ (List.mem_append_right _ (List.mem_of_getElem? (l := tables_1_5) (i := 65) rfl)))))) rfl
theorem wd_1026 : Cond.code yX9_fits cX9_fits 8 (some .int) ∈ BG := bg_of (List.mem_append_right _ (List.mem_append_right _ (List.mem_append_right _ (List.mem_append_right _ (List.mem_append_right _ (List.mem_of_getElem? (l := tables_1_5) (i := 66) rfl)))))) rfl
theorem wd_1039 : Cond.methodLink RL 83 yX9_joins ∈ BG := bg_of (List.mem_append_right _ (List.mem_append_right _ (List.mem_append_right _ (List.mem_append_right _ (List.mem_append_right _ (List.mem_of_getElem? (l := tables_1_5) (i := 79) rfl)))))) rfl
theorem wd_1040 : Cond.instanceMethod yX9_joins ∈ BG := bg_of (List.mem_append_right _ (List.mem_append_right _ (List.mem_append_right _ (List.mem_append_right _ (List.mem_append_right _ (List.mem_of_getElem? (l := tables_1_5) (i := 80) rfl)))))) rfl
theorem wd_1041 : Cond.selects RX9 yX9_joins yX9_joins ∈ BG := bg_of (List.mem_append_right _ (List.mem_append_right _ (List.mem_append_right _ (List.mem_append_right _ (List.mem_append_right _ (List.mem_of_getElem? (l := tables_1_5) (i := 81) rfl)))))) rfl
theorem wd_1042 : Cond.code yX9_joins cX9_joins 7 (some .int) ∈ BG := bg_of (List.mem_append_right _ (List.mem_append_right _ (List.mem_append_right _ (List.mem_append_right _ (List.mem_append_right _ (List.mem_of_getElem? (l := tables_1_5) (i := 82) rfl)))))) rfl
theorem wd_1055 : Cond.methodLink RL 87 yX9_loud ∈ BG := bg_of (List.mem_append_right _ (List.mem_append_right _ (List.mem_append_right _ (List.mem_append_right _ (List.mem_append_right _ (List.mem_of_getElem? (l := tables_1_5) (i := 95) rfl)))))) rfl
theorem wd_1056 : Cond.instanceMethod yX9_loud ∈ BG := bg_of (List.mem_append_right _ (List.mem_append_right _ (List.mem_append_right _ (List.mem_append_right _ (List.mem_append_right _ (List.mem_of_getElem? (l := tables_1_5) (i := 96) rfl)))))) rfl
theorem wd_1057 : Cond.selects RX9 yX9_loud yX9_loud ∈ BG := bg_of (List.mem_append_right _ (List.mem_append_right _ (List.mem_append_right _ (List.mem_append_right _ (List.mem_append_right _ (List.mem_of_getElem? (l := tables_1_5) (i := 97) rfl)))))) rfl
theorem wd_1058 : Cond.code yX9_loud cX9_loud 8 (some .int) ∈ BG := bg_of (List.mem_append_right _ (List.mem_append_right _ (List.mem_append_right _ (List.mem_append_right _ (List.mem_append_right _ (List.mem_of_getElem? (l := tables_1_5) (i := 98) rfl)))))) rfl
theorem wd_1059 : Cond.methodLink RL 91 yX9_part ∈ BG := bg_of (List.mem_append_right _ (List.mem_append_right _ (List.mem_append_right _ (List.mem_append_right _ (List.mem_append_right _ (List.mem_of_getElem? (l := tables_1_5) (i := 99) rfl)))))) rfl
theorem wd_1060 : Cond.instanceMethod yX9_part ∈ BG := bg_of (List.mem_append_right _ (List.mem_append_right _ (List.mem_append_right _ (List.mem_append_right _ (List.mem_append_right _ (List.mem_of_getElem? (l := tables_1_5) (i := 100) rfl)))))) rfl
theorem wd_1061 : Cond.selects RX9 yX9_part yX9_part ∈ BG := bg_of (List.mem_append_right _ (List.mem_append_right _ (List.mem_append_right _ (List.mem_append_right _ (List.mem_append_right _ (List.mem_of_getElem? (l := tables_1_5) (i := 101) rfl)))))) rfl
theorem wd_1062 : Cond.code yX9_part cX9_part 2 (some .int) ∈ BG := bg_of (List.mem_append_right _ (List.mem_append_right _ (List.mem_append_right _ (List.mem_append_right _ (List.mem_append_right _ (List.mem_of_getElem? (l := tables_1_5) (i := 102) rfl)))))) rfl
theorem wd_1067 : Cond.methodLink RL 95 yX9_reading ∈ BG := bg_of (List.mem_append_right _ (List.mem_append_right _ (List.mem_append_right _ (List.mem_append_right _ (List.mem_append_right _ (List.mem_of_getElem? (l := tables_1_5) (i := 107) rfl)))))) rfl
theorem wd_1068 : Cond.instanceMethod yX9_reading ∈ BG := bg_of (List.mem_append_right _ (List.mem_append_right _ (List.mem_append_right _ (List.mem_append_right _ (List.mem_append_right _ (List.mem_of_getElem? (l := tables_1_5) (i := 108) rfl)))))) rfl
theorem wd_1069 : Cond.selects RX9 yX9_reading yX9_reading ∈ BG := bg_of (List.mem_append_right _ (List.mem_append_right _ (List.mem_append_right _ (List.mem_append_right _ (List.mem_append_right _ (List.mem_of_getElem? (l := tables_1_5) (i := 109) rfl)))))) rfl
theorem wd_1070 : Cond.code yX9_reading cX9_reading 5 (some .int) ∈ BG := bg_of (List.mem_append_right _ (List.mem_append_right _ (List.mem_append_right _ (List.mem_append_right _ (List.mem_append_right _ (List.mem_of_getElem? (l := tables_1_5) (i := 110) rfl)))))) rfl
theorem wd_1071 : Cond.methodLink RL 99 yX9_back ∈ BG := bg_of (List.mem_append_right _ (List.mem_append_right _ (List.mem_append_right _ (List.mem_append_right _ (List.mem_append_right _ (List.mem_of_getElem? (l := tables_1_5) (i := 111) rfl)))))) rfl
theorem wd_1072 : Cond.instanceMethod yX9_back ∈ BG := bg_of (List.mem_append_right _ (List.mem_append_right _ (List.mem_append_right _ (List.mem_append_right _ (List.mem_append_right _ (List.mem_of_getElem? (l := tables_1_5) (i := 112) rfl)))))) rfl
theorem wd_1073 : Cond.selects RX9 yX9_back yX9_back ∈ BG := bg_of (List.mem_append_right _ (List.mem_append_right _ (List.mem_append_right _ (List.mem_append_right _ (List.mem_append_right _ (List.mem_of_getElem? (l := tables_1_5) (i := 113) rfl)))))) rfl
theorem wd_1074 : Cond.code yX9_back cX9_back 2 (some .int) ∈ BG := bg_of (List.mem_append_right _ (List.mem_append_right _ (List.mem_append_right _ (List.mem_append_right _ (List.mem_append_right _ (List.mem_of_getElem? (l := tables_1_5) (i := 114) rfl)))))) rfl
theorem wd_1075 : Cond.methodLink RL 103 yX9_weights ∈ BG := bg_of (List.mem_append_right _ (List.mem_append_right _ (List.mem_append_right _ (List.mem_append_right _ (List.mem_append_right _ (List.mem_of_getElem? (l := tables_1_5) (i := 115) rfl)))))) rfl
theorem wd_1076 : Cond.instanceMethod yX9_weights ∈ BG := bg_of (List.mem_append_right _ (List.mem_append_right _ (List.mem_append_right _ (List.mem_append_right _ (List.mem_append_right _ (List.mem_of_getElem? (l := tables_1_5) (i := 116) rfl)))))) rfl
theorem wd_1077 : Cond.selects RX9 yX9_weights yX9_weights ∈ BG := bg_of (List.mem_append_right _ (List.mem_append_right _ (List.mem_append_right _ (List.mem_append_right _ (List.mem_append_right _ (List.mem_of_getElem? (l := tables_1_5) (i := 117) rfl)))))) rfl
theorem wd_1078 : Cond.code yX9_weights cX9_weights 5 (some .int) ∈ BG := bg_of (List.mem_append_right _ (List.mem_append_right _ (List.mem_append_right _ (List.mem_append_right _ (List.mem_append_right _ (List.mem_of_getElem? (l := tables_1_5) (i := 118) rfl)))))) rfl
theorem wd_1083 : Cond.methodLink RL 107 yX9_kinds ∈ BG := bg_of (List.mem_append_right _ (List.mem_append_right _ (List.mem_append_right _ (List.mem_append_right _ (List.mem_append_right _ (List.mem_of_getElem? (l := tables_1_5) (i := 123) rfl)))))) rfl
theorem wd_1084 : Cond.instanceMethod yX9_kinds ∈ BG := bg_of (List.mem_append_right _ (List.mem_append_right _ (List.mem_append_right _ (List.mem_append_right _ (List.mem_append_right _ (List.mem_of_getElem? (l := tables_1_5) (i := 124) rfl)))))) rfl
theorem wd_1085 : Cond.selects RX9 yX9_kinds yX9_kinds ∈ BG := bg_of (List.mem_append_right _ (List.mem_append_right _ (List.mem_append_right _ (List.mem_append_right _ (List.mem_append_right _ (List.mem_of_getElem? (l := tables_1_5) (i := 125) rfl)))))) rfl
theorem wd_1086 : Cond.code yX9_kinds cX9_kinds 5 (some .int) ∈ BG := bg_of (List.mem_append_right _ (List.mem_append_right _ (List.mem_append_right _ (List.mem_append_right _ (List.mem_append_right _ (List.mem_of_getElem? (l := tables_1_5) (i := 126) rfl)))))) rfl
theorem wd_1087 : Cond.methodLink RL 111 yX9_creaks ∈ BG := bg_of (List.mem_append_right _ (List.mem_append_right _ (List.mem_append_right _ (List.mem_append_right _ (List.mem_append_right _ (List.mem_of_getElem? (l := tables_1_5) (i := 127) rfl)))))) rfl
theorem wd_1088 : Cond.instanceMethod yX9_creaks ∈ BG := bg_of (List.mem_append_right _ (List.mem_append_right _ (List.mem_append_right _ (List.mem_append_right _ (List.mem_append_right _ (List.mem_of_getElem? (l := tables_1_5) (i := 128) rfl)))))) rfl
theorem wd_1089 : Cond.selects RX9 yX9_creaks yX9_creaks ∈ BG := bg_of (List.mem_append_right _ (List.mem_append_right _ (List.mem_append_right _ (List.mem_append_right _ (List.mem_append_right _ (List.mem_of_getElem? (l := tables_1_5) (i := 129) rfl)))))) rfl
theorem wd_1090 : Cond.code yX9_creaks cX9_creaks 5 (some .int) ∈ BG := bg_of (List.mem_append_right _ (List.mem_append_right _ (List.mem_append_right _ (List.mem_append_right _ (List.mem_append_right _ (List.mem_of_getElem? (l := tables_1_5) (i := 130) rfl)))))) rfl
theorem wd_1091 : Cond.methodLink RL 116 yX9_odds ∈ BG := bg_of (List.mem_append_right _ (List.mem_append_right _ (List.mem_append_right _ (List.mem_append_right _ (List.mem_append_right _ (List.mem_of_getElem? (l := tables_1_5) (i := 131) rfl)))))) rfl
theorem wd_1092 : Cond.instanceMethod yX9_odds ∈ BG := bg_of (List.mem_append_right _ (List.mem_append_right _ (List.mem_append_right _ (List.mem_append_right _ (List.mem_append_right _ (List.mem_of_getElem? (l := tables_1_5) (i := 132) rfl)))))) rfl
theorem wd_1093 : Cond.selects RX9 yX9_odds yX9_odds ∈ BG := bg_of (List.mem_append_right _ (List.mem_append_right _ (List.mem_append_right _ (List.mem_append_right _ (List.mem_append_right _ (List.mem_of_getElem? (l := tables_1_5) (i := 133) rfl)))))) rfl
theorem wd_1094 : Cond.code yX9_odds cX9_odds 9 (some .long) ∈ BG := bg_of (List.mem_append_right _ (List.mem_append_right _ (List.mem_append_right _ (List.mem_append_right _ (List.mem_append_right _ (List.mem_of_getElem? (l := tables_1_5) (i := 134) rfl)))))) rfl
theorem wd_1103 : Cond.methodLink RL 120 yX9_sheet ∈ BG := bg_of (List.mem_append_right _ (List.mem_append_right _ (List.mem_append_right _ (List.mem_append_right _ (List.mem_append_right _ (List.mem_of_getElem? (l := tables_1_5) (i := 143) rfl)))))) rfl
theorem wd_1104 : Cond.instanceMethod yX9_sheet ∈ BG := bg_of (List.mem_append_right _ (List.mem_append_right _ (List.mem_append_right _ (List.mem_append_right _ (List.mem_append_right _ (List.mem_of_getElem? (l := tables_1_5) (i := 144) rfl)))))) rfl
theorem wd_1105 : Cond.selects RX9 yX9_sheet yX9_sheet ∈ BG := bg_of (List.mem_append_right _ (List.mem_append_right _ (List.mem_append_right _ (List.mem_append_right _ (List.mem_append_right _ (List.mem_of_getElem? (l := tables_1_5) (i := 145) rfl)))))) rfl
theorem wd_1106 : Cond.code yX9_sheet cX9_sheet 5 (some .int) ∈ BG := bg_of (List.mem_append_right _ (List.mem_append_right _ (List.mem_append_right _ (List.mem_append_right _ (List.mem_append_right _ (List.mem_of_getElem? (l := tables_1_5) (i := 146) rfl)))))) rfl
theorem wd_1107 : Cond.methodLink RL 124 yX9_lose ∈ BG := bg_of (List.mem_append_right _ (List.mem_append_right _ (List.mem_append_right _ (List.mem_append_right _ (List.mem_append_right _ (List.mem_of_getElem? (l := tables_1_5) (i := 147) rfl)))))) rfl
theorem wd_1108 : Cond.instanceMethod yX9_lose ∈ BG := bg_of (List.mem_append_right _ (List.mem_append_right _ (List.mem_append_right _ (List.mem_append_right _ (List.mem_append_right _ (List.mem_of_getElem? (l := tables_1_5) (i := 148) rfl)))))) rfl
theorem wd_1109 : Cond.selects RX9 yX9_lose yX9_lose ∈ BG := bg_of (List.mem_append_right _ (List.mem_append_right _ (List.mem_append_right _ (List.mem_append_right _ (List.mem_append_right _ (List.mem_of_getElem? (l := tables_1_5) (i := 149) rfl)))))) rfl
theorem wd_1110 : Cond.code yX9_lose cX9_lose 3 (some .int) ∈ BG := bg_of (List.mem_append_right _ (List.mem_append_right _ (List.mem_append_right _ (List.mem_append_right _ (List.mem_append_right _ (List.mem_of_getElem? (l := tables_1_5) (i := 150) rfl)))))) rfl
theorem wd_1111 : Cond.methodLink RL 128 yX9_put ∈ BG := bg_of (List.mem_append_right _ (List.mem_append_right _ (List.mem_append_right _ (List.mem_append_right _ (List.mem_append_right _ (List.mem_of_getElem? (l := tables_1_5) (i := 151) rfl)))))) rfl
theorem wd_1112 : Cond.instanceMethod yX9_put ∈ BG := bg_of (List.mem_append_right _ (List.mem_append_right _ (List.mem_append_right _ (List.mem_append_right _ (List.mem_append_right _ (List.mem_of_getElem? (l := tables_1_5) (i := 152) rfl)))))) rfl
theorem wd_1113 : Cond.selects RX9 yX9_put yX9_put ∈ BG := bg_of (List.mem_append_right _ (List.mem_append_right _ (List.mem_append_right _ (List.mem_append_right _ (List.mem_append_right _ (List.mem_of_getElem? (l := tables_1_5) (i := 153) rfl)))))) rfl
theorem wd_1114 : Cond.code yX9_put cX9_put 4 (some .int) ∈ BG := bg_of (List.mem_append_right _ (List.mem_append_right _ (List.mem_append_right _ (List.mem_append_right _ (List.mem_append_right _ (List.mem_of_getElem? (l := tables_1_5) (i := 154) rfl)))))) rfl
theorem wd_1115 : Cond.methodLink RL 132 yX9_cell ∈ BG := bg_of (List.mem_append_right _ (List.mem_append_right _ (List.mem_append_right _ (List.mem_append_right _ (List.mem_append_right _ (List.mem_of_getElem? (l := tables_1_5) (i := 155) rfl)))))) rfl
theorem wd_1116 : Cond.instanceMethod yX9_cell ∈ BG := bg_of (List.mem_append_right _ (List.mem_append_right _ (List.mem_append_right _ (List.mem_append_right _ (List.mem_append_right _ (List.mem_of_getElem? (l := tables_1_5) (i := 156) rfl)))))) rfl
theorem wd_1117 : Cond.selects RX9 yX9_cell yX9_cell ∈ BG := bg_of (List.mem_append_right _ (List.mem_append_right _ (List.mem_append_right _ (List.mem_append_right _ (List.mem_append_right _ (List.mem_of_getElem? (l := tables_1_5) (i := 157) rfl)))))) rfl
theorem wd_1118 : Cond.code yX9_cell cX9_cell 4 (some .long) ∈ BG := bg_of (List.mem_append_right _ (List.mem_append_right _ (List.mem_append_right _ (List.mem_append_right _ (List.mem_append_right _ (List.mem_of_getElem? (l := tables_1_5) (i := 158) rfl)))))) rfl
theorem wd_1123 : Cond.methodLink RL 136 yX9_copy ∈ BG := bg_of (List.mem_append_right _ (List.mem_append_right _ (List.mem_append_right _ (List.mem_append_right _ (List.mem_append_right _ (List.mem_of_getElem? (l := tables_1_5) (i := 163) rfl)))))) rfl
theorem wd_1124 : Cond.instanceMethod yX9_copy ∈ BG := bg_of (List.mem_append_right _ (List.mem_append_right _ (List.mem_append_right _ (List.mem_append_right _ (List.mem_append_right _ (List.mem_of_getElem? (l := tables_1_5) (i := 164) rfl)))))) rfl
theorem wd_1125 : Cond.selects RX9 yX9_copy yX9_copy ∈ BG := bg_of (List.mem_append_right _ (List.mem_append_right _ (List.mem_append_right _ (List.mem_append_right _ (List.mem_append_right _ (List.mem_of_getElem? (l := tables_1_5) (i := 165) rfl)))))) rfl
theorem wd_1126 : Cond.code yX9_copy cX9_copy 10 (some .int) ∈ BG := bg_of (List.mem_append_right _ (List.mem_append_right _ (List.mem_append_right _ (List.mem_append_right _ (List.mem_append_right _ (List.mem_of_getElem? (l := tables_1_5) (i := 166) rfl)))))) rfl
theorem wd_1127 : Cond.methodLink RL 140 yX9_tell ∈ BG := bg_of (List.mem_append_right _ (List.mem_append_right _ (List.mem_append_right _ (List.mem_append_right _ (List.mem_append_right _ (List.mem_of_getElem? (l := tables_1_5) (i := 167) rfl)))))) rfl
theorem wd_1128 : Cond.instanceMethod yX9_tell ∈ BG := bg_of (List.mem_append_right _ (List.mem_append_right _ (List.mem_append_right _ (List.mem_append_right _ (List.mem_append_right _ (List.mem_of_getElem? (l := tables_1_5) (i := 168) rfl)))))) rfl
theorem wd_1129 : Cond.selects RX9 yX9_tell yX9_tell ∈ BG := bg_of (List.mem_append_right _ (List.mem_append_right _ (List.mem_append_right _ (List.mem_append_right _ (List.mem_append_right _ (List.mem_of_getElem? (l := tables_1_5) (i := 169) rfl)))))) rfl
theorem wd_1130 : Cond.code yX9_tell cX9_tell 3 (some .int) ∈ BG := bg_of (List.mem_append_right _ (List.mem_append_right _ (List.mem_append_right _ (List.mem_append_right _ (List.mem_append_right _ (List.mem_of_getElem? (l := tables_1_5) (i := 170) rfl)))))) rfl
theorem wd_1135 : Cond.methodLink RL 144 yX9_hear ∈ BG := bg_of (List.mem_append_right _ (List.mem_append_right _ (List.mem_append_right _ (List.mem_append_right _ (List.mem_append_right _ (List.mem_of_getElem? (l := tables_1_5) (i := 175) rfl)))))) rfl
theorem wd_1136 : Cond.instanceMethod yX9_hear ∈ BG := bg_of (List.mem_append_right _ (List.mem_append_right _ (List.mem_append_right _ (List.mem_append_right _ (List.mem_append_right _ (List.mem_of_getElem? (l := tables_1_5) (i := 176) rfl)))))) rfl
theorem wd_1137 : Cond.selects RX9 yX9_hear yX9_hear ∈ BG := bg_of (List.mem_append_right _ (List.mem_append_right _ (List.mem_append_right _ (List.mem_append_right _ (List.mem_append_right _ (List.mem_of_getElem? (l := tables_1_5) (i := 177) rfl)))))) rfl
theorem wd_1138 : Cond.code yX9_hear cX9_hear 2 (some .int) ∈ BG := bg_of (List.mem_append_right _ (List.mem_append_right _ (List.mem_append_right _ (List.mem_append_right _ (List.mem_append_right _ (List.mem_of_getElem? (l := tables_1_5) (i := 178) rfl)))))) rfl
theorem wd_1139 : Cond.methodLink RL 148 yX9_as ∈ BG := bg_of (List.mem_append_right _ (List.mem_append_right _ (List.mem_append_right _ (List.mem_append_right _ (List.mem_append_right _ (List.mem_of_getElem? (l := tables_1_5) (i := 179) rfl)))))) rfl
theorem wd_1140 : Cond.instanceMethod yX9_as ∈ BG := bg_of (List.mem_append_right _ (List.mem_append_right _ (List.mem_append_right _ (List.mem_append_right _ (List.mem_append_right _ (List.mem_of_getElem? (l := tables_1_5) (i := 180) rfl)))))) rfl
theorem wd_1141 : Cond.selects RX9 yX9_as yX9_as ∈ BG := bg_of (List.mem_append_right _ (List.mem_append_right _ (List.mem_append_right _ (List.mem_append_right _ (List.mem_append_right _ (List.mem_of_getElem? (l := tables_1_5) (i := 181) rfl)))))) rfl
theorem wd_1142 : Cond.code yX9_as cX9_as 3 (some .int) ∈ BG := bg_of (List.mem_append_right _ (List.mem_append_right _ (List.mem_append_right _ (List.mem_append_right _ (List.mem_append_right _ (List.mem_of_getElem? (l := tables_1_5) (i := 182) rfl)))))) rfl
theorem wd_1143 : Cond.methodLink RL 152 yX9_trace ∈ BG := bg_of (List.mem_append_right _ (List.mem_append_right _ (List.mem_append_right _ (List.mem_append_right _ (List.mem_append_right _ (List.mem_of_getElem? (l := tables_1_5) (i := 183) rfl)))))) rfl
theorem wd_1144 : Cond.instanceMethod yX9_trace ∈ BG := bg_of (List.mem_append_right _ (List.mem_append_right _ (List.mem_append_right _ (List.mem_append_right _ (List.mem_append_right _ (List.mem_of_getElem? (l := tables_1_5) (i := 184) rfl)))))) rfl
theorem wd_1145 : Cond.selects RX9 yX9_trace yX9_trace ∈ BG := bg_of (List.mem_append_right _ (List.mem_append_right _ (List.mem_append_right _ (List.mem_append_right _ (List.mem_append_right _ (List.mem_of_getElem? (l := tables_1_5) (i := 185) rfl)))))) rfl
theorem wd_1146 : Cond.code yX9_trace cX9_trace 1 (some .int) ∈ BG := bg_of (List.mem_append_right _ (List.mem_append_right _ (List.mem_append_right _ (List.mem_append_right _ (List.mem_append_right _ (List.mem_of_getElem? (l := tables_1_5) (i := 186) rfl)))))) rfl
theorem wd_1147 : Cond.methodLink RL 156 yX9_fault ∈ BG := bg_of (List.mem_append_right _ (List.mem_append_right _ (List.mem_append_right _ (List.mem_append_right _ (List.mem_append_right _ (List.mem_of_getElem? (l := tables_1_5) (i := 187) rfl)))))) rfl
theorem wd_1148 : Cond.instanceMethod yX9_fault ∈ BG := bg_of (List.mem_append_right _ (List.mem_append_right _ (List.mem_append_right _ (List.mem_append_right _ (List.mem_append_right _ (List.mem_of_getElem? (l := tables_1_5) (i := 188) rfl)))))) rfl
theorem wd_1149 : Cond.selects RX9 yX9_fault yX9_fault ∈ BG := bg_of (List.mem_append_right _ (List.mem_append_right _ (List.mem_append_right _ (List.mem_append_right _ (List.mem_append_right _ (List.mem_of_getElem? (l := tables_1_5) (i := 189) rfl)))))) rfl
theorem wd_1150 : Cond.code yX9_fault cX9_fault 1 (some .int) ∈ BG := bg_of (List.mem_append_right _ (List.mem_append_right _ (List.mem_append_right _ (List.mem_append_right _ (List.mem_append_right _ (List.mem_of_getElem? (l := tables_1_5) (i := 190) rfl)))))) rfl
theorem wd_1151 : Cond.methodLink RL 160 yX9_many ∈ BG := bg_of (List.mem_append_right _ (List.mem_append_right _ (List.mem_append_right _ (List.mem_append_right _ (List.mem_append_right _ (List.mem_of_getElem? (l := tables_1_5) (i := 191) rfl)))))) rfl
theorem wd_1152 : Cond.instanceMethod yX9_many ∈ BG := bg_of (List.mem_append_right _ (List.mem_append_right _ (List.mem_append_right _ (List.mem_append_right _ (List.mem_append_right _ (List.mem_of_getElem? (l := tables_1_5) (i := 192) rfl)))))) rfl
theorem wd_1153 : Cond.selects RX9 yX9_many yX9_many ∈ BG := bg_of (List.mem_append_right _ (List.mem_append_right _ (List.mem_append_right _ (List.mem_append_right _ (List.mem_append_right _ (List.mem_of_getElem? (l := tables_1_5) (i := 193) rfl)))))) rfl
theorem wd_1154 : Cond.code yX9_many cX9_many 2 (some .int) ∈ BG := bg_of (List.mem_append_right _ (List.mem_append_right _ (List.mem_append_right _ (List.mem_append_right _ (List.mem_append_right _ (List.mem_of_getElem? (l := tables_1_5) (i := 194) rfl)))))) rfl
theorem hy_X8_as : yX8_as.cls = RX8 ∧ yX8_as.cls ≠ "java/lang/invoke/MethodHandle" ∧ yX8_as.cls ≠ "java/lang/invoke/VarHandle" ∧ (parseMethodDescriptor yX8_as.desc).map (fun d => d.parameters.length) = some 2 := by decide +kernel
theorem hy_X8_back : yX8_back.cls = RX8 ∧ yX8_back.cls ≠ "java/lang/invoke/MethodHandle" ∧ yX8_back.cls ≠ "java/lang/invoke/VarHandle" ∧ (parseMethodDescriptor yX8_back.desc).map (fun d => d.parameters.length) = some 1 := by decide +kernel
theorem hy_X8_bump : yX8_bump.cls = RX8 ∧ yX8_bump.cls ≠ "java/lang/invoke/MethodHandle" ∧ yX8_bump.cls ≠ "java/lang/invoke/VarHandle" ∧ (parseMethodDescriptor yX8_bump.desc).map (fun d => d.parameters.length) = some 3 := by decide +kernel
theorem hy_X8_carry : yX8_carry.cls = RX8 ∧ yX8_carry.cls ≠ "java/lang/invoke/MethodHandle" ∧ yX8_carry.cls ≠ "java/lang/invoke/VarHandle" ∧ (parseMethodDescriptor yX8_carry.desc).map (fun d => d.parameters.length) = some 2 := by decide +kernel
theorem hy_X8_cell : yX8_cell.cls = RX8 ∧ yX8_cell.cls ≠ "java/lang/invoke/MethodHandle" ∧ yX8_cell.cls ≠ "java/lang/invoke/VarHandle" ∧ (parseMethodDescriptor yX8_cell.desc).map (fun d => d.parameters.length) = some 3 := by decide +kernel
theorem hy_X8_copy : yX8_copy.cls = RX8 ∧ yX8_copy.cls ≠ "java/lang/invoke/MethodHandle" ∧ yX8_copy.cls ≠ "java/lang/invoke/VarHandle" ∧ (parseMethodDescriptor yX8_copy.desc).map (fun d => d.parameters.length) = some 5 := by decide +kernel
theorem hy_X8_creak : yX8_creak.cls = RX8 ∧ yX8_creak.cls ≠ "java/lang/invoke/MethodHandle" ∧ yX8_creak.cls ≠ "java/lang/invoke/VarHandle" ∧ (parseMethodDescriptor yX8_creak.desc).map (fun d => d.parameters.length) = some 1 := by decide +kernel
theorem hy_X8_creaks : yX8_creaks.cls = RX8 ∧ yX8_creaks.cls ≠ "java/lang/invoke/MethodHandle" ∧ yX8_creaks.cls ≠ "java/lang/invoke/VarHandle" ∧ (parseMethodDescriptor yX8_creaks.desc).map (fun d => d.parameters.length) = some 1 := by decide +kernel
theorem hy_X8_dine : yX8_dine.cls = RX8 ∧ yX8_dine.cls ≠ "java/lang/invoke/MethodHandle" ∧ yX8_dine.cls ≠ "java/lang/invoke/VarHandle" ∧ (parseMethodDescriptor yX8_dine.desc).map (fun d => d.parameters.length) = some 2 := by decide +kernel
theorem hy_X8_fault : yX8_fault.cls = RX8 ∧ yX8_fault.cls ≠ "java/lang/invoke/MethodHandle" ∧ yX8_fault.cls ≠ "java/lang/invoke/VarHandle" ∧ (parseMethodDescriptor yX8_fault.desc).map (fun d => d.parameters.length) = some 0 := by decide +kernel
theorem hy_X8_fits : yX8_fits.cls = RX8 ∧ yX8_fits.cls ≠ "java/lang/invoke/MethodHandle" ∧ yX8_fits.cls ≠ "java/lang/invoke/VarHandle" ∧ (parseMethodDescriptor yX8_fits.desc).map (fun d => d.parameters.length) = some 6 := by decide +kernel
theorem hy_X8_hear : yX8_hear.cls = RX8 ∧ yX8_hear.cls ≠ "java/lang/invoke/MethodHandle" ∧ yX8_hear.cls ≠ "java/lang/invoke/VarHandle" ∧ (parseMethodDescriptor yX8_hear.desc).map (fun d => d.parameters.length) = some 1 := by decide +kernel
theorem hy_X8_house : yX8_house.cls = RX8 ∧ yX8_house.cls ≠ "java/lang/invoke/MethodHandle" ∧ yX8_house.cls ≠ "java/lang/invoke/VarHandle" ∧ (parseMethodDescriptor yX8_house.desc).map (fun d => d.parameters.length) = some 4 := by decide +kernel
theorem hy_X8_joins : yX8_joins.cls = RX8 ∧ yX8_joins.cls ≠ "java/lang/invoke/MethodHandle" ∧ yX8_joins.cls ≠ "java/lang/invoke/VarHandle" ∧ (parseMethodDescriptor yX8_joins.desc).map (fun d => d.parameters.length) = some 5 := by decide +kernel
theorem hy_X8_kinds : yX8_kinds.cls = RX8 ∧ yX8_kinds.cls ≠ "java/lang/invoke/MethodHandle" ∧ yX8_kinds.cls ≠ "java/lang/invoke/VarHandle" ∧ (parseMethodDescriptor yX8_kinds.desc).map (fun d => d.parameters.length) = some 1 := by decide +kernel
theorem hy_X8_leap : yX8_leap.cls = RX8 ∧ yX8_leap.cls ≠ "java/lang/invoke/MethodHandle" ∧ yX8_leap.cls ≠ "java/lang/invoke/VarHandle" ∧ (parseMethodDescriptor yX8_leap.desc).map (fun d => d.parameters.length) = some 1 := by decide +kernel
theorem hy_X8_lose : yX8_lose.cls = RX8 ∧ yX8_lose.cls ≠ "java/lang/invoke/MethodHandle" ∧ yX8_lose.cls ≠ "java/lang/invoke/VarHandle" ∧ (parseMethodDescriptor yX8_lose.desc).map (fun d => d.parameters.length) = some 1 := by decide +kernel
theorem hy_X8_loud : yX8_loud.cls = RX8 ∧ yX8_loud.cls ≠ "java/lang/invoke/MethodHandle" ∧ yX8_loud.cls ≠ "java/lang/invoke/VarHandle" ∧ (parseMethodDescriptor yX8_loud.desc).map (fun d => d.parameters.length) = some 2 := by decide +kernel
theorem hy_X8_many : yX8_many.cls = RX8 ∧ yX8_many.cls ≠ "java/lang/invoke/MethodHandle" ∧ yX8_many.cls ≠ "java/lang/invoke/VarHandle" ∧ (parseMethodDescriptor yX8_many.desc).map (fun d => d.parameters.length) = some 1 := by decide +kernel
theorem hy_X8_meet : yX8_meet.cls = RX8 ∧ yX8_meet.cls ≠ "java/lang/invoke/MethodHandle" ∧ yX8_meet.cls ≠ "java/lang/invoke/VarHandle" ∧ (parseMethodDescriptor yX8_meet.desc).map (fun d => d.parameters.length) = some 3 := by decide +kernel
theorem hy_X8_night : yX8_night.cls = RX8 ∧ yX8_night.cls ≠ "java/lang/invoke/MethodHandle" ∧ yX8_night.cls ≠ "java/lang/invoke/VarHandle" ∧ (parseMethodDescriptor yX8_night.desc).map (fun d => d.parameters.length) = some 6 := by decide +kernel
theorem hy_X8_odds : yX8_odds.cls = RX8 ∧ yX8_odds.cls ≠ "java/lang/invoke/MethodHandle" ∧ yX8_odds.cls ≠ "java/lang/invoke/VarHandle" ∧ (parseMethodDescriptor yX8_odds.desc).map (fun d => d.parameters.length) = some 3 := by decide +kernel
theorem hy_X8_ofDoer : yX8_ofDoer.cls = RX8 ∧ yX8_ofDoer.cls ≠ "java/lang/invoke/MethodHandle" ∧ yX8_ofDoer.cls ≠ "java/lang/invoke/VarHandle" ∧ (parseMethodDescriptor yX8_ofDoer.desc).map (fun d => d.parameters.length) = some 2 := by decide +kernel
theorem hy_X8_ofPen : yX8_ofPen.cls = RX8 ∧ yX8_ofPen.cls ≠ "java/lang/invoke/MethodHandle" ∧ yX8_ofPen.cls ≠ "java/lang/invoke/VarHandle" ∧ (parseMethodDescriptor yX8_ofPen.desc).map (fun d => d.parameters.length) = some 2 := by decide +kernel
theorem hy_X8_oil : yX8_oil.cls = RX8 ∧ yX8_oil.cls ≠ "java/lang/invoke/MethodHandle" ∧ yX8_oil.cls ≠ "java/lang/invoke/VarHandle" ∧ (parseMethodDescriptor yX8_oil.desc).map (fun d => d.parameters.length) = some 2 := by decide +kernel
theorem hy_X8_paper : yX8_paper.cls = RX8 ∧ yX8_paper.cls ≠ "java/lang/invoke/MethodHandle" ∧ yX8_paper.cls ≠ "java/lang/invoke/VarHandle" ∧ (parseMethodDescriptor yX8_paper.desc).map (fun d => d.parameters.length) = some 0 := by decide +kernel
theorem hy_X8_part : yX8_part.cls = RX8 ∧ yX8_part.cls ≠ "java/lang/invoke/MethodHandle" ∧ yX8_part.cls ≠ "java/lang/invoke/VarHandle" ∧ (parseMethodDescriptor yX8_part.desc).map (fun d => d.parameters.length) = some 0 := by decide +kernel
theorem hy_X8_put : yX8_put.cls = RX8 ∧ yX8_put.cls ≠ "java/lang/invoke/MethodHandle" ∧ yX8_put.cls ≠ "java/lang/invoke/VarHandle" ∧ (parseMethodDescriptor yX8_put.desc).map (fun d => d.parameters.length) = some 3 := by decide +kernel
theorem hy_X8_quiet : yX8_quiet.cls = RX8 ∧ yX8_quiet.cls ≠ "java/lang/invoke/MethodHandle" ∧ yX8_quiet.cls ≠ "java/lang/invoke/VarHandle" ∧ (parseMethodDescriptor yX8_quiet.desc).map (fun d => d.parameters.length) = some 3 := by decide +kernel
theorem hy_X8_reading : yX8_reading.cls = RX8 ∧ yX8_reading.cls ≠ "java/lang/invoke/MethodHandle" ∧ yX8_reading.cls ≠ "java/lang/invoke/VarHandle" ∧ (parseMethodDescriptor yX8_reading.desc).map (fun d => d.parameters.length) = some 4 := by decide +kernel
theorem hy_X8_sheet : yX8_sheet.cls = RX8 ∧ yX8_sheet.cls ≠ "java/lang/invoke/MethodHandle" ∧ yX8_sheet.cls ≠ "java/lang/invoke/VarHandle" ∧ (parseMethodDescriptor yX8_sheet.desc).map (fun d => d.parameters.length) = some 3 := by decide +kernel
theorem hy_X8_step : yX8_step.cls = RX8 ∧ yX8_step.cls ≠ "java/lang/invoke/MethodHandle" ∧ yX8_step.cls ≠ "java/lang/invoke/VarHandle" ∧ (parseMethodDescriptor yX8_step.desc).map (fun d => d.parameters.length) = some 2 := by decide +kernel
theorem hy_X8_tell : yX8_tell.cls = RX8 ∧ yX8_tell.cls ≠ "java/lang/invoke/MethodHandle" ∧ yX8_tell.cls ≠ "java/lang/invoke/VarHandle" ∧ (parseMethodDescriptor yX8_tell.desc).map (fun d => d.parameters.length) = some 1 := by decide +kernel
theorem hy_X8_trace : yX8_trace.cls = RX8 ∧ yX8_trace.cls ≠ "java/lang/invoke/MethodHandle" ∧ yX8_trace.cls ≠ "java/lang/invoke/VarHandle" ∧ (parseMethodDescriptor yX8_trace.desc).map (fun d => d.parameters.length) = some 0 := by decide +kernel
theorem hy_X8_weights : yX8_weights.cls = RX8 ∧ yX8_weights.cls ≠ "java/lang/invoke/MethodHandle" ∧ yX8_weights.cls ≠ "java/lang/invoke/VarHandle" ∧ (parseMethodDescriptor yX8_weights.desc).map (fun d => d.parameters.length) = some 1 := by decide +kernel
theorem hy_X9_as : yX9_as.cls = RX9 ∧ yX9_as.cls ≠ "java/lang/invoke/MethodHandle" ∧ yX9_as.cls ≠ "java/lang/invoke/VarHandle" ∧ (parseMethodDescriptor yX9_as.desc).map (fun d => d.parameters.length) = some 2 := by decide +kernel
theorem hy_X9_back : yX9_back.cls = RX9 ∧ yX9_back.cls ≠ "java/lang/invoke/MethodHandle" ∧ yX9_back.cls ≠ "java/lang/invoke/VarHandle" ∧ (parseMethodDescriptor yX9_back.desc).map (fun d => d.parameters.length) = some 1 := by decide +kernel
theorem hy_X9_bump : yX9_bump.cls = RX9 ∧ yX9_bump.cls ≠ "java/lang/invoke/MethodHandle" ∧ yX9_bump.cls ≠ "java/lang/invoke/VarHandle" ∧ (parseMethodDescriptor yX9_bump.desc).map (fun d => d.parameters.length) = some 3 := by decide +kernel
theorem hy_X9_carry : yX9_carry.cls = RX9 ∧ yX9_carry.cls ≠ "java/lang/invoke/MethodHandle" ∧ yX9_carry.cls ≠ "java/lang/invoke/VarHandle" ∧ (parseMethodDescriptor yX9_carry.desc).map (fun d => d.parameters.length) = some 2 := by decide +kernel
theorem hy_X9_cell : yX9_cell.cls = RX9 ∧ yX9_cell.cls ≠ "java/lang/invoke/MethodHandle" ∧ yX9_cell.cls ≠ "java/lang/invoke/VarHandle" ∧ (parseMethodDescriptor yX9_cell.desc).map (fun d => d.parameters.length) = some 3 := by decide +kernel
theorem hy_X9_copy : yX9_copy.cls = RX9 ∧ yX9_copy.cls ≠ "java/lang/invoke/MethodHandle" ∧ yX9_copy.cls ≠ "java/lang/invoke/VarHandle" ∧ (parseMethodDescriptor yX9_copy.desc).map (fun d => d.parameters.length) = some 5 := by decide +kernel
theorem hy_X9_creak : yX9_creak.cls = RX9 ∧ yX9_creak.cls ≠ "java/lang/invoke/MethodHandle" ∧ yX9_creak.cls ≠ "java/lang/invoke/VarHandle" ∧ (parseMethodDescriptor yX9_creak.desc).map (fun d => d.parameters.length) = some 1 := by decide +kernel
theorem hy_X9_creaks : yX9_creaks.cls = RX9 ∧ yX9_creaks.cls ≠ "java/lang/invoke/MethodHandle" ∧ yX9_creaks.cls ≠ "java/lang/invoke/VarHandle" ∧ (parseMethodDescriptor yX9_creaks.desc).map (fun d => d.parameters.length) = some 1 := by decide +kernel
theorem hy_X9_dine : yX9_dine.cls = RX9 ∧ yX9_dine.cls ≠ "java/lang/invoke/MethodHandle" ∧ yX9_dine.cls ≠ "java/lang/invoke/VarHandle" ∧ (parseMethodDescriptor yX9_dine.desc).map (fun d => d.parameters.length) = some 2 := by decide +kernel
theorem hy_X9_fault : yX9_fault.cls = RX9 ∧ yX9_fault.cls ≠ "java/lang/invoke/MethodHandle" ∧ yX9_fault.cls ≠ "java/lang/invoke/VarHandle" ∧ (parseMethodDescriptor yX9_fault.desc).map (fun d => d.parameters.length) = some 0 := by decide +kernel
theorem hy_X9_fits : yX9_fits.cls = RX9 ∧ yX9_fits.cls ≠ "java/lang/invoke/MethodHandle" ∧ yX9_fits.cls ≠ "java/lang/invoke/VarHandle" ∧ (parseMethodDescriptor yX9_fits.desc).map (fun d => d.parameters.length) = some 6 := by decide +kernel
theorem hy_X9_hear : yX9_hear.cls = RX9 ∧ yX9_hear.cls ≠ "java/lang/invoke/MethodHandle" ∧ yX9_hear.cls ≠ "java/lang/invoke/VarHandle" ∧ (parseMethodDescriptor yX9_hear.desc).map (fun d => d.parameters.length) = some 1 := by decide +kernel
theorem hy_X9_house : yX9_house.cls = RX9 ∧ yX9_house.cls ≠ "java/lang/invoke/MethodHandle" ∧ yX9_house.cls ≠ "java/lang/invoke/VarHandle" ∧ (parseMethodDescriptor yX9_house.desc).map (fun d => d.parameters.length) = some 4 := by decide +kernel
theorem hy_X9_joins : yX9_joins.cls = RX9 ∧ yX9_joins.cls ≠ "java/lang/invoke/MethodHandle" ∧ yX9_joins.cls ≠ "java/lang/invoke/VarHandle" ∧ (parseMethodDescriptor yX9_joins.desc).map (fun d => d.parameters.length) = some 5 := by decide +kernel
theorem hy_X9_kinds : yX9_kinds.cls = RX9 ∧ yX9_kinds.cls ≠ "java/lang/invoke/MethodHandle" ∧ yX9_kinds.cls ≠ "java/lang/invoke/VarHandle" ∧ (parseMethodDescriptor yX9_kinds.desc).map (fun d => d.parameters.length) = some 1 := by decide +kernel
theorem hy_X9_leap : yX9_leap.cls = RX9 ∧ yX9_leap.cls ≠ "java/lang/invoke/MethodHandle" ∧ yX9_leap.cls ≠ "java/lang/invoke/VarHandle" ∧ (parseMethodDescriptor yX9_leap.desc).map (fun d => d.parameters.length) = some 1 := by decide +kernel
theorem hy_X9_lose : yX9_lose.cls = RX9 ∧ yX9_lose.cls ≠ "java/lang/invoke/MethodHandle" ∧ yX9_lose.cls ≠ "java/lang/invoke/VarHandle" ∧ (parseMethodDescriptor yX9_lose.desc).map (fun d => d.parameters.length) = some 1 := by decide +kernel
theorem hy_X9_loud : yX9_loud.cls = RX9 ∧ yX9_loud.cls ≠ "java/lang/invoke/MethodHandle" ∧ yX9_loud.cls ≠ "java/lang/invoke/VarHandle" ∧ (parseMethodDescriptor yX9_loud.desc).map (fun d => d.parameters.length) = some 2 := by decide +kernel
theorem hy_X9_many : yX9_many.cls = RX9 ∧ yX9_many.cls ≠ "java/lang/invoke/MethodHandle" ∧ yX9_many.cls ≠ "java/lang/invoke/VarHandle" ∧ (parseMethodDescriptor yX9_many.desc).map (fun d => d.parameters.length) = some 1 := by decide +kernel
theorem hy_X9_meet : yX9_meet.cls = RX9 ∧ yX9_meet.cls ≠ "java/lang/invoke/MethodHandle" ∧ yX9_meet.cls ≠ "java/lang/invoke/VarHandle" ∧ (parseMethodDescriptor yX9_meet.desc).map (fun d => d.parameters.length) = some 3 := by decide +kernel
theorem hy_X9_night : yX9_night.cls = RX9 ∧ yX9_night.cls ≠ "java/lang/invoke/MethodHandle" ∧ yX9_night.cls ≠ "java/lang/invoke/VarHandle" ∧ (parseMethodDescriptor yX9_night.desc).map (fun d => d.parameters.length) = some 6 := by decide +kernel
theorem hy_X9_odds : yX9_odds.cls = RX9 ∧ yX9_odds.cls ≠ "java/lang/invoke/MethodHandle" ∧ yX9_odds.cls ≠ "java/lang/invoke/VarHandle" ∧ (parseMethodDescriptor yX9_odds.desc).map (fun d => d.parameters.length) = some 3 := by decide +kernel
theorem hy_X9_ofDoer : yX9_ofDoer.cls = RX9 ∧ yX9_ofDoer.cls ≠ "java/lang/invoke/MethodHandle" ∧ yX9_ofDoer.cls ≠ "java/lang/invoke/VarHandle" ∧ (parseMethodDescriptor yX9_ofDoer.desc).map (fun d => d.parameters.length) = some 2 := by decide +kernel
theorem hy_X9_ofPen : yX9_ofPen.cls = RX9 ∧ yX9_ofPen.cls ≠ "java/lang/invoke/MethodHandle" ∧ yX9_ofPen.cls ≠ "java/lang/invoke/VarHandle" ∧ (parseMethodDescriptor yX9_ofPen.desc).map (fun d => d.parameters.length) = some 2 := by decide +kernel
theorem hy_X9_oil : yX9_oil.cls = RX9 ∧ yX9_oil.cls ≠ "java/lang/invoke/MethodHandle" ∧ yX9_oil.cls ≠ "java/lang/invoke/VarHandle" ∧ (parseMethodDescriptor yX9_oil.desc).map (fun d => d.parameters.length) = some 2 := by decide +kernel
theorem hy_X9_paper : yX9_paper.cls = RX9 ∧ yX9_paper.cls ≠ "java/lang/invoke/MethodHandle" ∧ yX9_paper.cls ≠ "java/lang/invoke/VarHandle" ∧ (parseMethodDescriptor yX9_paper.desc).map (fun d => d.parameters.length) = some 0 := by decide +kernel
theorem hy_X9_part : yX9_part.cls = RX9 ∧ yX9_part.cls ≠ "java/lang/invoke/MethodHandle" ∧ yX9_part.cls ≠ "java/lang/invoke/VarHandle" ∧ (parseMethodDescriptor yX9_part.desc).map (fun d => d.parameters.length) = some 0 := by decide +kernel
theorem hy_X9_put : yX9_put.cls = RX9 ∧ yX9_put.cls ≠ "java/lang/invoke/MethodHandle" ∧ yX9_put.cls ≠ "java/lang/invoke/VarHandle" ∧ (parseMethodDescriptor yX9_put.desc).map (fun d => d.parameters.length) = some 3 := by decide +kernel
theorem hy_X9_quiet : yX9_quiet.cls = RX9 ∧ yX9_quiet.cls ≠ "java/lang/invoke/MethodHandle" ∧ yX9_quiet.cls ≠ "java/lang/invoke/VarHandle" ∧ (parseMethodDescriptor yX9_quiet.desc).map (fun d => d.parameters.length) = some 3 := by decide +kernel
theorem hy_X9_reading : yX9_reading.cls = RX9 ∧ yX9_reading.cls ≠ "java/lang/invoke/MethodHandle" ∧ yX9_reading.cls ≠ "java/lang/invoke/VarHandle" ∧ (parseMethodDescriptor yX9_reading.desc).map (fun d => d.parameters.length) = some 4 := by decide +kernel
theorem hy_X9_sheet : yX9_sheet.cls = RX9 ∧ yX9_sheet.cls ≠ "java/lang/invoke/MethodHandle" ∧ yX9_sheet.cls ≠ "java/lang/invoke/VarHandle" ∧ (parseMethodDescriptor yX9_sheet.desc).map (fun d => d.parameters.length) = some 3 := by decide +kernel
theorem hy_X9_step : yX9_step.cls = RX9 ∧ yX9_step.cls ≠ "java/lang/invoke/MethodHandle" ∧ yX9_step.cls ≠ "java/lang/invoke/VarHandle" ∧ (parseMethodDescriptor yX9_step.desc).map (fun d => d.parameters.length) = some 2 := by decide +kernel
theorem hy_X9_tell : yX9_tell.cls = RX9 ∧ yX9_tell.cls ≠ "java/lang/invoke/MethodHandle" ∧ yX9_tell.cls ≠ "java/lang/invoke/VarHandle" ∧ (parseMethodDescriptor yX9_tell.desc).map (fun d => d.parameters.length) = some 1 := by decide +kernel
theorem hy_X9_trace : yX9_trace.cls = RX9 ∧ yX9_trace.cls ≠ "java/lang/invoke/MethodHandle" ∧ yX9_trace.cls ≠ "java/lang/invoke/VarHandle" ∧ (parseMethodDescriptor yX9_trace.desc).map (fun d => d.parameters.length) = some 0 := by decide +kernel
theorem hy_X9_weights : yX9_weights.cls = RX9 ∧ yX9_weights.cls ≠ "java/lang/invoke/MethodHandle" ∧ yX9_weights.cls ≠ "java/lang/invoke/VarHandle" ∧ (parseMethodDescriptor yX9_weights.desc).map (fun d => d.parameters.length) = some 1 := by decide +kernel
def Ok {ρ : Type} (R : Sto → Sto → Prop) (a b : Option (ρ × Sto)) : Prop := ∃ (r : ρ) (S1 T1 : Sto), a = some (r, S1) ∧ b = some (r, T1) ∧ R S1 T1
def AllOk (R : Sto → Sto → Prop) : Prop := (∀ (x1 x2 x3 x4 : Int32) (S T : Sto), R S T → Ok R (F_X8_house x1 x2 x3 x4 S) (F_X9_house x1 x2 x3 x4 T)) ∧ (∀ (x1 x2 : Int32) (S T : Sto), R S T → Ok R (F_X8_ofDoer x1 x2 S) (F_X9_ofDoer x1 x2 T)) ∧ (∀ (x1 x2 : Int32) (S T : Sto), R S T → Ok R (F_X8_ofPen x1 x2 S) (F_X9_ofPen x1 x2 T)) ∧ (∀ (x1 : Int32) (S T : Sto), R S T → Ok R (F_X8_creak x1 S) (F_X9_creak x1 T)) ∧ (∀ (x1 x2 : Int32) (S T : Sto), R S T → Ok R (F_X8_oil x1 x2 S) (F_X9_oil x1 x2 T)) ∧ (∀ (x1 x2 : Int32) (S T : Sto), R S T → Ok R (F_X8_dine x1 x2 S) (F_X9_dine x1 x2 T)) ∧ (∀ (x1 x2 : Int32) (S T : Sto), R S T → Ok R (F_X8_carry x1 x2 S) (F_X9_carry x1 x2 T)) ∧ (∀ (x1 : Int32) (S T : Sto), R S T → Ok R (F_X8_leap x1 S) (F_X9_leap x1 T)) ∧ (∀ (x1 x2 x3 : Int32) (S T : Sto), R S T → Ok R (F_X8_bump x1 x2 x3 S) (F_X9_bump x1 x2 x3 T)) ∧ (∀ (x1 x2 : Int32) (S T : Sto), R S T → Ok R (F_X8_step x1 x2 S) (F_X9_step x1 x2 T)) ∧ (∀ (S T : Sto), R S T → Ok R (F_X8_paper  S) (F_X9_paper  T)) ∧ (∀ (x1 x2 x3 x4 x5 x6 : Int32) (S T : Sto), R S T → Ok R (F_X8_night x1 x2 x3 x4 x5 x6 S) (F_X9_night x1 x2 x3 x4 x5 x6 T)) ∧ (∀ (x1 x2 x3 : Int32) (S T : Sto), R S T → Ok R (F_X8_quiet x1 x2 x3 S) (F_X9_quiet x1 x2 x3 T)) ∧ (∀ (x1 x2 x3 : Int32) (S T : Sto), R S T → Ok R (F_X8_meet x1 x2 x3 S) (F_X9_meet x1 x2 x3 T)) ∧ (∀ (x1 x2 x3 x4 x5 x6 : Int32) (S T : Sto), R S T → Ok R (F_X8_fits x1 x2 x3 x4 x5 x6 S) (F_X9_fits x1 x2 x3 x4 x5 x6 T)) ∧ (∀ (x1 x2 x3 x4 x5 : Int32) (S T : Sto), R S T → Ok R (F_X8_joins x1 x2 x3 x4 x5 S) (F_X9_joins x1 x2 x3 x4 x5 T)) ∧ (∀ (x1 x2 : Int32) (S T : Sto), R S T → Ok R (F_X8_loud x1 x2 S) (F_X9_loud x1 x2 T)) ∧ (∀ (S T : Sto), R S T → Ok R (F_X8_part  S) (F_X9_part  T)) ∧ (∀ (x1 x2 x3 x4 : Int32) (S T : Sto), R S T → Ok R (F_X8_reading x1 x2 x3 x4 S) (F_X9_reading x1 x2 x3 x4 T)) ∧ (∀ (x1 : Int32) (S T : Sto), R S T → Ok R (F_X8_back x1 S) (F_X9_back x1 T)) ∧ (∀ (x1 : Int32) (S T : Sto), R S T → Ok R (F_X8_weights x1 S) (F_X9_weights x1 T)) ∧ (∀ (x1 : Int32) (S T : Sto), R S T → Ok R (F_X8_kinds x1 S) (F_X9_kinds x1 T)) ∧ (∀ (x1 : Int32) (S T : Sto), R S T → Ok R (F_X8_creaks x1 S) (F_X9_creaks x1 T)) ∧ (∀ (x1 x2 x3 : Int32) (S T : Sto), R S T → Ok R (F_X8_odds x1 x2 x3 S) (F_X9_odds x1 x2 x3 T)) ∧ (∀ (x1 x2 x3 : Int32) (S T : Sto), R S T → Ok R (F_X8_sheet x1 x2 x3 S) (F_X9_sheet x1 x2 x3 T)) ∧ (∀ (x1 : Int32) (S T : Sto), R S T → Ok R (F_X8_lose x1 S) (F_X9_lose x1 T)) ∧ (∀ (x1 x2 x3 : Int32) (S T : Sto), R S T → Ok R (F_X8_put x1 x2 x3 S) (F_X9_put x1 x2 x3 T)) ∧ (∀ (x1 x2 x3 : Int32) (S T : Sto), R S T → Ok R (F_X8_cell x1 x2 x3 S) (F_X9_cell x1 x2 x3 T)) ∧ (∀ (x1 x2 x3 x4 x5 : Int32) (S T : Sto), R S T → Ok R (F_X8_copy x1 x2 x3 x4 x5 S) (F_X9_copy x1 x2 x3 x4 x5 T)) ∧ (∀ (x1 : Int32) (S T : Sto), R S T → Ok R (F_X8_tell x1 S) (F_X9_tell x1 T)) ∧ (∀ (x1 : Int32) (S T : Sto), R S T → Ok R (F_X8_hear x1 S) (F_X9_hear x1 T)) ∧ (∀ (x1 x2 : Int32) (S T : Sto), R S T → Ok R (F_X8_as x1 x2 S) (F_X9_as x1 x2 T)) ∧ (∀ (S T : Sto), R S T → Ok R (F_X8_trace  S) (F_X9_trace  T)) ∧ (∀ (S T : Sto), R S T → Ok R (F_X8_fault  S) (F_X9_fault  T)) ∧ (∀ (x1 : Int32) (S T : Sto), R S T → Ok R (F_X8_many x1 S) (F_X9_many x1 T))
theorem vP_l {D : va_G} {cl : List vw_C} {a b : va_W} {H : Heap} (h : va_P D cl (a ++ b) H) : va_P D cl a H := fun k q hk => h k q (by rw [List.getElem?_append_left (List.getElem?_eq_some_iff.mp hk).1]; exact hk)
theorem vP_r {D : va_G} {cl : List vw_C} {a b : va_W} {H : Heap} (h : va_P D cl (a ++ b) H) : va_P D cl b H := fun k q hk => h (a.length + k) q (by rw [List.getElem?_append_right (Nat.le_add_right _ _), Nat.add_sub_cancel_left]; exact hk)
def Aof (n : Nat) (ad : Nat → Nat) : Nat → Prop := fun q => ∃ k, k < n ∧ q = ad k
theorem at_of {n : Nat} {ad : Nat → Nat} {ws : va_W} (h : ws.map (fun q => q.1) = (List.range n).map ad) {k : Nat} {q : Nat × va_E} (hk : ws[k]? = some q) : k < n ∧ q.1 = ad k := by
  have h1 : (ws.map (fun q => q.1))[k]? = some q.1 := by rw [List.getElem?_map, hk]; rfl
  rw [h, List.getElem?_map] at h1
  by_cases hn : k < n
  · rw [List.getElem?_range hn] at h1
    exact ⟨hn, (Option.some.inj h1).symm⟩
  · rw [List.getElem?_eq_none (by simp; omega)] at h1
    cases h1
theorem cw_ads (ad : Nat → Nat) (cI : ClassId) (S : Sto) : (cw ad cI S).map (fun q => q.1) = (List.range 49).map ad := rfl
theorem mw_ads (ad : Nat → Nat) (cI : ClassId) (S : Sto) : (mw ad cI S).map (fun q => q.1) = (List.range 26).map ad := rfl
theorem vD_of {n : Nat} {ad : Nat → Nat} {ws : va_W} (h : ws.map (fun q => q.1) = (List.range n).map ad) (hi : ∀ i j, i < n → j < n → ad i = ad j → i = j) : va_D (Aof n ad) ws :=
  ⟨fun i j p q hp hq he => hi i j (at_of h hp).1 (at_of h hq).1 (by rw [← (at_of h hp).2, ← (at_of h hq).2]; exact he), fun k q hk => ⟨k, (at_of h hk).1, (at_of h hk).2⟩⟩
def Apart (ad ad2 : Nat → Nat) (sz : Nat) : Prop := (∀ i j, i < 49 → j < 49 → ad i = ad j → i = j) ∧ (∀ i j, i < 26 → j < 26 → ad2 i = ad2 j → i = j) ∧ (∀ i j, i < 49 → j < 26 → ad i ≠ ad2 j) ∧ (∀ i, i < 49 → sz ≤ ad i) ∧ (∀ i, i < 26 → sz ≤ ad2 i)
def AL (s : State) : Nat → Prop := fun q => s.heap.size ≤ q
def CLw (ad ad2 : Nat → Nat) (cI : ClassId) (D : va_G) (tS : Nat) (p : Program) (s : State) (m : MethodId) (meth : Method) (c : Code) (b L : Nat) (xs : Nat → Int32) : Prop :=
  CallFix p m c code 4 s #[Value.ref b] BG RL ∧ Gs D cI tS (AL s) s s.heap ∧ Apart ad ad2 s.heap.size ∧ (va_X b L xs s s.heap ∧ b < s.heap.size) ∧ L ≤ 448 ∧ meth.locks = false ∧ meth.sig.returnType = ret
def LW (ad ad2 : Nat → Nat) (cI : ClassId) (D : va_G) (p : Program) (l : Launch) (e : Env) (s : State) (m : MethodId) (below : List Frame) (meth : Method) (c : Code) (b : Nat) (S T : Sto) (g : JFrame) : Prop :=
  ∀ (H : Heap) (locs : List Loc), va_P D vwCl (cw ad cI S ++ mw ad2 cI T) H → va_S (AL s) s.heap H locs → W p l e room_1 s m #[Value.ref b] below meth c H locs 75 1049 (lw_Z below #[Value.ref b] s) g
theorem Gs.narrow {D : va_G} {cI : ClassId} {tS : Nat} {A B : Nat → Prop} {U : State} {H : Heap} (h : Gs D cI tS A U H) (hAB : ∀ q, B q → A q) : Gs D cI tS B U H := ⟨h.1, h.2.1, h.2.2.1.narrow hAB, h.2.2.2.narrow hAB⟩
section LWS
variable {ad ad2 : Nat → Nat} {cI : ClassId} {D : va_G} {tS : Nat} {p : Program} {l : Launch} {e : Env} {s : State} {m : MethodId} {below : List Frame} {meth : Method} {c : Code} {b L : Nat} {xs : Nat → Int32} {S T : Sto}
variable {pc : Nat} {ls : Array Slot} {st : List Value}
theorem LW.lift {g g2 : JFrame} (h : ∀ (H : Heap) (locs : List Loc) (Q : State → Prop), W p l e room_1 s m #[Value.ref b] below meth c H locs 75 1049 Q g2 → W p l e room_1 s m #[Value.ref b] below meth c H locs 75 1049 Q g) (k : LW ad ad2 cI D p l e s m below meth c b S T g2) : LW ad ad2 cI D p l e s m below meth c b S T g := fun H locs hP hS => h H locs _ (k H locs hP hS)
theorem l_aload (C : CLw ad ad2 cI D tS p s m meth c b L xs) {j : Fin 4} {i x : Nat} (hdg : decode code pc = .ok (.aload_n j, 1)) (hi : (j : Nat) = i) (hl : ls[i]? = some (.val (.ref x))) (k : LW ad ad2 cI D p l e s m below meth c b S T (F0 m (pc + 1) ls (.ref x :: st))) : LW ad ad2 cI D p l e s m below meth c b S T (F0 m pc ls st) := LW.lift (fun _ _ _ k => lv_aload_n C.1.1 C.1.2.1 hdg hi hl k) k
theorem l_iload (C : CLw ad ad2 cI D tS p s m meth c b L xs) {j : Fin 4} {i : Nat} {x : Int32} (hdg : decode code pc = .ok (.iload_n j, 1)) (hi : (j : Nat) = i) (hl : ls[i]? = some (.val (.int x))) (k : LW ad ad2 cI D p l e s m below meth c b S T (F0 m (pc + 1) ls (.int x :: st))) : LW ad ad2 cI D p l e s m below meth c b S T (F0 m pc ls st) := LW.lift (fun _ _ _ k => lv_iload_n C.1.1 C.1.2.1 hdg hi hl k) k
theorem nI_off (j k : Nat) {i : Int32} (hk : i = nI k) : nI j + i = nI (j + k) := by rw [hk]; exact nI_add j k
theorem l_sld (C : CLw ad ad2 cI D tS p s m meth c b L xs) (j : Nat) {i : Int32} (hi : i = nI j) (hj : j < L) (hdg : decode code pc = .ok (.iaload, 1)) (k : LW ad ad2 cI D p l e s m below meth c b S T (F0 m (pc + 1) ls (.int (xs j) :: st))) : LW ad ad2 cI D p l e s m below meth c b S T (F0 m pc ls (.int i :: .ref b :: st)) := fun H locs hP hS => by
  subst hi
  have hL : L < 2 ^ 31 := Nat.lt_of_le_of_lt C.2.2.2.2.1 (by decide)
  have e1 : (nI j).toNatClampNeg = j := nI_clamp (Nat.lt_trans hj hL)
  refine va_sld C.1.1 C.1.2.1 C.2.2.2.1.1 C.2.2.2.1.2 (Nat.not_le.mpr C.2.2.2.1.2) hS (vp_in_nI hj hL) hdg ?_
  rw [e1]
  exact k H locs hP hS
theorem l_arg (C : CLw ad ad2 cI D tS p s m meth c b L xs) (j k : Nat) {n : Int} {z : Int32} {a1 a2 a3 a4 : Nat} {lv : List (Nat × Value)} (hl : lv_has ls 4 lv) (h0 : ls[0]? = some (.val (.ref b))) (h3 : ls[3]? = some (.val (.int (nI j)))) (hj : j + k < L) (hz : z = nI k) (hv : Int32.ofInt n = z) (d0 : decode code pc = .ok (.aload_n 0, 1)) (d1 : decode code (pc + 1) = .ok (.iload_n 3, 1)) (d2 : decode code (pc + 2) = .ok (.iconst n, 1)) (d3 : decode code (pc + 3) = .ok (.iadd, 1)) (d4 : decode code (pc + 4) = .ok (.iaload, 1)) (kk : LW ad ad2 cI D p l e s m below meth c b S T (F0 m (pc + 5) ls (.int (xs (j + k)) :: st))) : LW ad ad2 cI D p l e s m below meth c b S T (F0 m pc ls st) := by
  refine l_aload C d0 rfl h0 ?_
  refine l_iload C d1 rfl h3 ?_
  refine LW.lift (fun _ _ _ k => lv_iconst C.1.1 C.1.2.1 d2 hv k) ?_
  refine LW.lift (fun _ _ _ k => lv_iadd C.1.1 C.1.2.1 d3 k) ?_
  exact l_sld C (j + k) (nI_off j k hz) hj d4 kk
theorem l_argb (C : CLw ad ad2 cI D tS p s m meth c b L xs) (j k : Nat) {n : Int} {z : Int32} {lv : List (Nat × Value)} (hl : lv_has ls 4 lv) (h0 : ls[0]? = some (.val (.ref b))) (h3 : ls[3]? = some (.val (.int (nI j)))) (hj : j + k < L) (hz : z = nI k) (hv : (Int8.ofInt n).toInt32 = z) (d0 : decode code pc = .ok (.aload_n 0, 1)) (d1 : decode code (pc + 1) = .ok (.iload_n 3, 1)) (d2 : decode code (pc + 2) = .ok (.bipush n, 2)) (d3 : decode code (pc + 4) = .ok (.iadd, 1)) (d4 : decode code (pc + 5) = .ok (.iaload, 1)) (kk : LW ad ad2 cI D p l e s m below meth c b S T (F0 m (pc + 6) ls (.int (xs (j + k)) :: st))) : LW ad ad2 cI D p l e s m below meth c b S T (F0 m pc ls st) := by
  refine l_aload C d0 rfl h0 ?_
  refine l_iload C d1 rfl h3 ?_
  refine LW.lift (fun _ _ _ k => lv_bipush C.1.1 C.1.2.1 d2 hv k) ?_
  refine LW.lift (fun _ _ _ k => lv_iadd C.1.1 C.1.2.1 d3 k) ?_
  exact l_sld C (j + k) (nI_off j k hz) hj d4 kk
theorem l_callc {r : Int32} {S1 : Sto} {o : Option (Int32 × Sto)} (C : CLw ad ad2 cI D tS p s m meth c b L xs) (n : Nat) {index maxL d1 : Nat} {y : MethodName} {bytes : ByteArray} {rt : Option FieldType} {st0 : List Value} (As : List Value) (hM : Con (cw ad cI) D cI tS (Aof 49 ad) l y bytes maxL rt d1 (.ref (ad 0) :: As) S o) (ho : o = some (r, S1)) (hw1 : Cond.methodLink RL index y ∈ BG) (hw2 : Cond.instanceMethod y ∈ BG) (hw3 : Cond.selects RX8 y y ∈ BG) (hw4 : Cond.initialized RX8 ∈ BG) (hw5 : Cond.code y bytes maxL rt ∈ BG) (hy : y.cls = RX8 ∧ y.cls ≠ "java/lang/invoke/MethodHandle" ∧ y.cls ≠ "java/lang/invoke/VarHandle" ∧ (parseMethodDescriptor y.desc).map (fun d => d.parameters.length) = some n) (hn : As.length = n) (hmL : maxL ≤ 21) (hd : d1 ≤ 100) (hsz : ls.size = 4) (hr : (st.map fun v => v.category).sum ≤ 8) (hst : st0 = As.reverse ++ .ref (ad 0) :: st) (hdg : decode code pc = .ok (.invokevirtual index, 3)) (k : LW ad ad2 cI D p l e s m below meth c b S1 T (F0 m (pc + 3) ls (.int r :: st))) : LW ad ad2 cI D p l e s m below meth c b S T (F0 m pc ls st0) := by
  intro H locs hP hS
  have hM1 := hM r S1 ho
  have hPC := vP_l hP
  have hPM := vP_r hP
  have hAc : ∀ q, Aof 49 ad q → AL s q := fun q h => by obtain ⟨k, h1, rfl⟩ := h; exact C.2.2.1.2.2.2.1 k h1
  have hAm : ∀ q, Aof 26 ad2 q → AL s q := fun q h => by obtain ⟨k, h1, rfl⟩ := h; exact C.2.2.1.2.2.2.2 k h1
  have hx1 : ∀ q, Aof 49 ad q → ¬ Aof 26 ad2 q := fun q h h' => by
    obtain ⟨i, h1, rfl⟩ := h
    obtain ⟨j, h2, h3⟩ := h'
    exact C.2.2.1.2.2.1 i j h1 h2 h3
  refine va_calli (va_runV (n := n) (As := As) (rest := st) (C := RX8) C.1 hM1 (cwV n C.1.2.2.2.2 (bg_good fun w hw => ?_) rfl rfl rfl hy ⟨?_, ?_⟩) ⟨Gd.blind, va_recv (q0 := 0) (ci := 8) (q := (RX8, TX8, 13)) C.2.1.1 hPC rfl rfl, fun U hU hW => ⟨rfl, by rw [hU]; exact hPC, by rw [hU]; exact Gs.narrow (Gs.go hW hS.2.1 C.2.1) hAc⟩⟩ rfl hn hsz hst (lv_room hr) hdg ⟨Nat.le_of_ble_eq_true rfl, Nat.le_of_ble_eq_true rfl⟩) hS (fun q _ h => hAc q h) hAc (fun r2 u t H1 locs1 ht hvm hp hB hz hkp hS1 => ?_)
  · rcases List.mem_append.mp hw with h | h
    · simp only [List.mem_cons, List.not_mem_nil, or_false] at h
      rcases h with rfl | rfl | rfl | rfl <;> assumption
    · rcases List.mem_cons.mp h with rfl | h
      · exact hw5
      · exact h
  · show d1 + 1 ≤ 2048
    omega
  · show 8 + (maxL + 11) + 40 * d1 ≤ 84000
    omega
  · obtain ⟨rfl, rfl⟩ := hp
    refine k H1 locs1 ?_ hS1
    refine va_P.app (ht ▸ hB.1) (hPM.kept (fun k q hq => ?_))
    have h1 := at_of (mw_ads ad2 cI T) hq
    exact hkp _ (hPM k q hq).lt (fun h => hx1 _ h ⟨k, h1.1, h1.2⟩)
theorem l_callm {r : Int32} {S1 : Sto} {o : Option (Int32 × Sto)} (C : CLw ad ad2 cI D tS p s m meth c b L xs) (n : Nat) {index maxL d1 : Nat} {y : MethodName} {bytes : ByteArray} {rt : Option FieldType} {st0 : List Value} (As : List Value) (hM : Con (mw ad2 cI) D cI tS (Aof 26 ad2) l y bytes maxL rt d1 (.ref (ad2 0) :: As) T o) (ho : o = some (r, S1)) (hw1 : Cond.methodLink RL index y ∈ BG) (hw2 : Cond.instanceMethod y ∈ BG) (hw3 : Cond.selects RX9 y y ∈ BG) (hw4 : Cond.initialized RX9 ∈ BG) (hw5 : Cond.code y bytes maxL rt ∈ BG) (hy : y.cls = RX9 ∧ y.cls ≠ "java/lang/invoke/MethodHandle" ∧ y.cls ≠ "java/lang/invoke/VarHandle" ∧ (parseMethodDescriptor y.desc).map (fun d => d.parameters.length) = some n) (hn : As.length = n) (hmL : maxL ≤ 21) (hd : d1 ≤ 100) (hsz : ls.size = 4) (hr : (st.map fun v => v.category).sum ≤ 8) (hst : st0 = As.reverse ++ .ref (ad2 0) :: st) (hdg : decode code pc = .ok (.invokevirtual index, 3)) (k : LW ad ad2 cI D p l e s m below meth c b S S1 (F0 m (pc + 3) ls (.int r :: st))) : LW ad ad2 cI D p l e s m below meth c b S T (F0 m pc ls st0) := by
  intro H locs hP hS
  have hM1 := hM r S1 ho
  have hPC := vP_l hP
  have hPM := vP_r hP
  have hAc : ∀ q, Aof 49 ad q → AL s q := fun q h => by obtain ⟨k, h1, rfl⟩ := h; exact C.2.2.1.2.2.2.1 k h1
  have hAm : ∀ q, Aof 26 ad2 q → AL s q := fun q h => by obtain ⟨k, h1, rfl⟩ := h; exact C.2.2.1.2.2.2.2 k h1
  have hx1 : ∀ q, Aof 49 ad q → ¬ Aof 26 ad2 q := fun q h h' => by
    obtain ⟨i, h1, rfl⟩ := h
    obtain ⟨j, h2, h3⟩ := h'
    exact C.2.2.1.2.2.1 i j h1 h2 h3
  refine va_calli (va_runV (n := n) (As := As) (rest := st) (C := RX9) C.1 hM1 (cwV n C.1.2.2.2.2 (bg_good fun w hw => ?_) rfl rfl rfl hy ⟨?_, ?_⟩) ⟨Gd.blind, va_recv (q0 := 0) (ci := 9) (q := (RX9, TX9, 40)) C.2.1.1 hPM rfl rfl, fun U hU hW => ⟨rfl, by rw [hU]; exact hPM, by rw [hU]; exact Gs.narrow (Gs.go hW hS.2.1 C.2.1) hAm⟩⟩ rfl hn hsz hst (lv_room hr) hdg ⟨Nat.le_of_ble_eq_true rfl, Nat.le_of_ble_eq_true rfl⟩) hS (fun q _ h => hAm q h) hAm (fun r2 u t H1 locs1 ht hvm hp hB hz hkp hS1 => ?_)
  · rcases List.mem_append.mp hw with h | h
    · simp only [List.mem_cons, List.not_mem_nil, or_false] at h
      rcases h with rfl | rfl | rfl | rfl <;> assumption
    · rcases List.mem_cons.mp h with rfl | h
      · exact hw5
      · exact h
  · show d1 + 1 ≤ 2048
    omega
  · show 8 + (maxL + 11) + 40 * d1 ≤ 84000
    omega
  · obtain ⟨rfl, rfl⟩ := hp
    refine k H1 locs1 ?_ hS1
    refine va_P.app (hPC.kept (fun k q hq => ?_)) (ht ▸ hB.1)
    have h1 := at_of (cw_ads ad cI S) hq
    exact hkp _ (hPC k q hq).lt (fun h => hx1 _ ⟨k, h1.1, h1.2⟩ h)
theorem l_calllc {r : Int64} {S1 : Sto} {o : Option (Int64 × Sto)} (C : CLw ad ad2 cI D tS p s m meth c b L xs) (n : Nat) {index maxL d1 : Nat} {y : MethodName} {bytes : ByteArray} {rt : Option FieldType} {st0 : List Value} (As : List Value) (hM : ConL (cw ad cI) D cI tS (Aof 49 ad) l y bytes maxL rt d1 (.ref (ad 0) :: As) S o) (ho : o = some (r, S1)) (hw1 : Cond.methodLink RL index y ∈ BG) (hw2 : Cond.instanceMethod y ∈ BG) (hw3 : Cond.selects RX8 y y ∈ BG) (hw4 : Cond.initialized RX8 ∈ BG) (hw5 : Cond.code y bytes maxL rt ∈ BG) (hy : y.cls = RX8 ∧ y.cls ≠ "java/lang/invoke/MethodHandle" ∧ y.cls ≠ "java/lang/invoke/VarHandle" ∧ (parseMethodDescriptor y.desc).map (fun d => d.parameters.length) = some n) (hn : As.length = n) (hmL : maxL ≤ 21) (hd : d1 ≤ 100) (hsz : ls.size = 4) (hr : (st.map fun v => v.category).sum ≤ 8) (hst : st0 = As.reverse ++ .ref (ad 0) :: st) (hdg : decode code pc = .ok (.invokevirtual index, 3)) (k : LW ad ad2 cI D p l e s m below meth c b S1 T (F0 m (pc + 3) ls (.long r :: st))) : LW ad ad2 cI D p l e s m below meth c b S T (F0 m pc ls st0) := by
  intro H locs hP hS
  have hM1 := hM r S1 ho
  have hPC := vP_l hP
  have hPM := vP_r hP
  have hAc : ∀ q, Aof 49 ad q → AL s q := fun q h => by obtain ⟨k, h1, rfl⟩ := h; exact C.2.2.1.2.2.2.1 k h1
  have hAm : ∀ q, Aof 26 ad2 q → AL s q := fun q h => by obtain ⟨k, h1, rfl⟩ := h; exact C.2.2.1.2.2.2.2 k h1
  have hx1 : ∀ q, Aof 49 ad q → ¬ Aof 26 ad2 q := fun q h h' => by
    obtain ⟨i, h1, rfl⟩ := h
    obtain ⟨j, h2, h3⟩ := h'
    exact C.2.2.1.2.2.1 i j h1 h2 h3
  refine va_calll (va_runV (n := n) (As := As) (rest := st) (C := RX8) C.1 hM1 (cwV n C.1.2.2.2.2 (bg_good fun w hw => ?_) rfl rfl rfl hy ⟨?_, ?_⟩) ⟨Gd.blind, va_recv (q0 := 0) (ci := 8) (q := (RX8, TX8, 13)) C.2.1.1 hPC rfl rfl, fun U hU hW => ⟨rfl, by rw [hU]; exact hPC, by rw [hU]; exact Gs.narrow (Gs.go hW hS.2.1 C.2.1) hAc⟩⟩ rfl hn hsz hst (lv_room hr) hdg ⟨Nat.le_of_ble_eq_true rfl, Nat.le_of_ble_eq_true rfl⟩) hS (fun q _ h => hAc q h) hAc (fun r2 u t H1 locs1 ht hvm hp hB hz hkp hS1 => ?_)
  · rcases List.mem_append.mp hw with h | h
    · simp only [List.mem_cons, List.not_mem_nil, or_false] at h
      rcases h with rfl | rfl | rfl | rfl <;> assumption
    · rcases List.mem_cons.mp h with rfl | h
      · exact hw5
      · exact h
  · show d1 + 1 ≤ 2048
    omega
  · show 8 + (maxL + 11) + 40 * d1 ≤ 84000
    omega
  · obtain ⟨rfl, rfl⟩ := hp
    refine k H1 locs1 ?_ hS1
    refine va_P.app (ht ▸ hB.1) (hPM.kept (fun k q hq => ?_))
    have h1 := at_of (mw_ads ad2 cI T) hq
    exact hkp _ (hPM k q hq).lt (fun h => hx1 _ h ⟨k, h1.1, h1.2⟩)
theorem l_calllm {r : Int64} {S1 : Sto} {o : Option (Int64 × Sto)} (C : CLw ad ad2 cI D tS p s m meth c b L xs) (n : Nat) {index maxL d1 : Nat} {y : MethodName} {bytes : ByteArray} {rt : Option FieldType} {st0 : List Value} (As : List Value) (hM : ConL (mw ad2 cI) D cI tS (Aof 26 ad2) l y bytes maxL rt d1 (.ref (ad2 0) :: As) T o) (ho : o = some (r, S1)) (hw1 : Cond.methodLink RL index y ∈ BG) (hw2 : Cond.instanceMethod y ∈ BG) (hw3 : Cond.selects RX9 y y ∈ BG) (hw4 : Cond.initialized RX9 ∈ BG) (hw5 : Cond.code y bytes maxL rt ∈ BG) (hy : y.cls = RX9 ∧ y.cls ≠ "java/lang/invoke/MethodHandle" ∧ y.cls ≠ "java/lang/invoke/VarHandle" ∧ (parseMethodDescriptor y.desc).map (fun d => d.parameters.length) = some n) (hn : As.length = n) (hmL : maxL ≤ 21) (hd : d1 ≤ 100) (hsz : ls.size = 4) (hr : (st.map fun v => v.category).sum ≤ 8) (hst : st0 = As.reverse ++ .ref (ad2 0) :: st) (hdg : decode code pc = .ok (.invokevirtual index, 3)) (k : LW ad ad2 cI D p l e s m below meth c b S S1 (F0 m (pc + 3) ls (.long r :: st))) : LW ad ad2 cI D p l e s m below meth c b S T (F0 m pc ls st0) := by
  intro H locs hP hS
  have hM1 := hM r S1 ho
  have hPC := vP_l hP
  have hPM := vP_r hP
  have hAc : ∀ q, Aof 49 ad q → AL s q := fun q h => by obtain ⟨k, h1, rfl⟩ := h; exact C.2.2.1.2.2.2.1 k h1
  have hAm : ∀ q, Aof 26 ad2 q → AL s q := fun q h => by obtain ⟨k, h1, rfl⟩ := h; exact C.2.2.1.2.2.2.2 k h1
  have hx1 : ∀ q, Aof 49 ad q → ¬ Aof 26 ad2 q := fun q h h' => by
    obtain ⟨i, h1, rfl⟩ := h
    obtain ⟨j, h2, h3⟩ := h'
    exact C.2.2.1.2.2.1 i j h1 h2 h3
  refine va_calll (va_runV (n := n) (As := As) (rest := st) (C := RX9) C.1 hM1 (cwV n C.1.2.2.2.2 (bg_good fun w hw => ?_) rfl rfl rfl hy ⟨?_, ?_⟩) ⟨Gd.blind, va_recv (q0 := 0) (ci := 9) (q := (RX9, TX9, 40)) C.2.1.1 hPM rfl rfl, fun U hU hW => ⟨rfl, by rw [hU]; exact hPM, by rw [hU]; exact Gs.narrow (Gs.go hW hS.2.1 C.2.1) hAm⟩⟩ rfl hn hsz hst (lv_room hr) hdg ⟨Nat.le_of_ble_eq_true rfl, Nat.le_of_ble_eq_true rfl⟩) hS (fun q _ h => hAm q h) hAm (fun r2 u t H1 locs1 ht hvm hp hB hz hkp hS1 => ?_)
  · rcases List.mem_append.mp hw with h | h
    · simp only [List.mem_cons, List.not_mem_nil, or_false] at h
      rcases h with rfl | rfl | rfl | rfl <;> assumption
    · rcases List.mem_cons.mp h with rfl | h
      · exact hw5
      · exact h
  · show d1 + 1 ≤ 2048
    omega
  · show 8 + (maxL + 11) + 40 * d1 ≤ 84000
    omega
  · obtain ⟨rfl, rfl⟩ := hp
    refine k H1 locs1 ?_ hS1
    refine va_P.app (hPC.kept (fun k q hq => ?_)) (ht ▸ hB.1)
    have h1 := at_of (cw_ads ad cI S) hq
    exact hkp _ (hPC k q hq).lt (fun h => hx1 _ ⟨k, h1.1, h1.2⟩ h)
theorem vD8 (C : CLw ad ad2 cI D tS p s m meth c b L xs) (S : Sto) : va_D (Aof 49 ad) (cw ad cI S) := vD_of (cw_ads ad cI S) C.2.2.1.1
theorem vD9 (C : CLw ad ad2 cI D tS p s m meth c b L xs) (S : Sto) : va_D (Aof 26 ad2) (mw ad2 cI S) := vD_of (mw_ads ad2 cI S) C.2.2.1.2.1
theorem lc_house {R : Sto → Sto → Prop} (C : CLw ad ad2 cI D tS p s m meth c b L xs) {j : Nat} (hok : Ok R (F_X8_house (xs (j + 1)) (xs (j + 2)) (xs (j + 3)) (xs (j + 4)) S) (F_X9_house (xs (j + 1)) (xs (j + 2)) (xs (j + 3)) (xs (j + 4)) T)) (hj : j + 7 ≤ L) (hl : lv_has ls 4 [(0, .ref b), (1, .ref (ad 0)), (2, .ref (ad2 0)), (3, .int (nI j))]) (next : ∀ S1 T1, R S1 T1 → LW ad ad2 cI D p l e s m below meth c b S1 T1 (F0 m 1419 ls [])) : LW ad ad2 cI D p l e s m below meth c b S T (F0 m 188 ls []) := by
  obtain ⟨r, S1, T1, h8, h9, hR1⟩ := hok
  have h0 := lv_at hl 0 rfl
  have h3 := lv_at hl 3 rfl
  refine l_aload C dL_law_188 rfl (lv_at hl 1 rfl) ?_
  refine l_arg (a1 := 0) (a2 := 0) (a3 := 0) (a4 := 0) C j 1 hl h0 h3 (by omega) (show ((1 : Int32)) = nI 1 from rfl) (by decide) dL_law_189 dL_law_190 dL_law_191 dL_law_192 dL_law_193 ?_
  refine l_arg (a1 := 0) (a2 := 0) (a3 := 0) (a4 := 0) C j 2 hl h0 h3 (by omega) (show ((2 : Int32)) = nI 2 from rfl) (by decide) dL_law_194 dL_law_195 dL_law_196 dL_law_197 dL_law_198 ?_
  refine l_arg (a1 := 0) (a2 := 0) (a3 := 0) (a4 := 0) C j 3 hl h0 h3 (by omega) (show ((3 : Int32)) = nI 3 from rfl) (by decide) dL_law_199 dL_law_200 dL_law_201 dL_law_202 dL_law_203 ?_
  refine l_arg (a1 := 0) (a2 := 0) (a3 := 0) (a4 := 0) C j 4 hl h0 h3 (by omega) (show ((4 : Int32)) = nI 4 from rfl) (by decide) dL_law_204 dL_law_205 dL_law_206 dL_law_207 dL_law_208 ?_
  refine l_callc C 4 [.int (xs (j + 1)), .int (xs (j + 2)), .int (xs (j + 3)), .int (xs (j + 4))] (c_X8_house (vD8 C) (xs (j + 1)) (xs (j + 2)) (xs (j + 3)) (xs (j + 4)) S) h8 wd_272 wd_273 wd_274 wd_1 wd_275 hy_X8_house rfl (by decide) (by decide) hl.1 (Nat.le_of_ble_eq_true rfl) rfl dL_law_209 ?_
  refine l_aload C dL_law_212 rfl (lv_at hl 2 rfl) ?_
  refine l_arg (a1 := 0) (a2 := 0) (a3 := 0) (a4 := 0) C j 1 hl h0 h3 (by omega) (show ((1 : Int32)) = nI 1 from rfl) (by decide) dL_law_213 dL_law_214 dL_law_215 dL_law_216 dL_law_217 ?_
  refine l_arg (a1 := 0) (a2 := 0) (a3 := 0) (a4 := 0) C j 2 hl h0 h3 (by omega) (show ((2 : Int32)) = nI 2 from rfl) (by decide) dL_law_218 dL_law_219 dL_law_220 dL_law_221 dL_law_222 ?_
  refine l_arg (a1 := 0) (a2 := 0) (a3 := 0) (a4 := 0) C j 3 hl h0 h3 (by omega) (show ((3 : Int32)) = nI 3 from rfl) (by decide) dL_law_223 dL_law_224 dL_law_225 dL_law_226 dL_law_227 ?_
  refine l_arg (a1 := 0) (a2 := 0) (a3 := 0) (a4 := 0) C j 4 hl h0 h3 (by omega) (show ((4 : Int32)) = nI 4 from rfl) (by decide) dL_law_228 dL_law_229 dL_law_230 dL_law_231 dL_law_232 ?_
  refine l_callm C 4 [.int (xs (j + 1)), .int (xs (j + 2)), .int (xs (j + 3)), .int (xs (j + 4))] (c_X9_house (vD9 C) (xs (j + 1)) (xs (j + 2)) (xs (j + 3)) (xs (j + 4)) T) h9 wd_867 wd_868 wd_869 wd_10 wd_870 hy_X9_house rfl (by decide) (by decide) hl.1 (Nat.le_of_ble_eq_true rfl) rfl dL_law_233 ?_
  refine fun H locs hP hS => lv_icmp_eq (tgt := 1419) C.1.1 C.1.2.1 dL_law_236 (by decide) (fun hc => ?_) (fun hc => ?_)
  · exact next S1 T1 hR1 H locs hP hS
  · exact absurd rfl hc
theorem lc_ofDoer {R : Sto → Sto → Prop} (C : CLw ad ad2 cI D tS p s m meth c b L xs) {j : Nat} (hok : Ok R (F_X8_ofDoer (xs (j + 1)) (xs (j + 2)) S) (F_X9_ofDoer (xs (j + 1)) (xs (j + 2)) T)) (hj : j + 7 ≤ L) (hl : lv_has ls 4 [(0, .ref b), (1, .ref (ad 0)), (2, .ref (ad2 0)), (3, .int (nI j))]) (next : ∀ S1 T1, R S1 T1 → LW ad ad2 cI D p l e s m below meth c b S1 T1 (F0 m 1419 ls [])) : LW ad ad2 cI D p l e s m below meth c b S T (F0 m 241 ls []) := by
  obtain ⟨r, S1, T1, h8, h9, hR1⟩ := hok
  have h0 := lv_at hl 0 rfl
  have h3 := lv_at hl 3 rfl
  refine l_aload C dL_law_241 rfl (lv_at hl 1 rfl) ?_
  refine l_arg (a1 := 0) (a2 := 0) (a3 := 0) (a4 := 0) C j 1 hl h0 h3 (by omega) (show ((1 : Int32)) = nI 1 from rfl) (by decide) dL_law_242 dL_law_243 dL_law_244 dL_law_245 dL_law_246 ?_
  refine l_arg (a1 := 0) (a2 := 0) (a3 := 0) (a4 := 0) C j 2 hl h0 h3 (by omega) (show ((2 : Int32)) = nI 2 from rfl) (by decide) dL_law_247 dL_law_248 dL_law_249 dL_law_250 dL_law_251 ?_
  refine l_callc C 2 [.int (xs (j + 1)), .int (xs (j + 2))] (c_X8_ofDoer (vD8 C) (xs (j + 1)) (xs (j + 2)) S) h8 wd_374 wd_375 wd_376 wd_1 wd_377 hy_X8_ofDoer rfl (by decide) (by decide) hl.1 (Nat.le_of_ble_eq_true rfl) rfl dL_law_252 ?_
  refine l_aload C dL_law_255 rfl (lv_at hl 2 rfl) ?_
  refine l_arg (a1 := 0) (a2 := 0) (a3 := 0) (a4 := 0) C j 1 hl h0 h3 (by omega) (show ((1 : Int32)) = nI 1 from rfl) (by decide) dL_law_256 dL_law_257 dL_law_258 dL_law_259 dL_law_260 ?_
  refine l_arg (a1 := 0) (a2 := 0) (a3 := 0) (a4 := 0) C j 2 hl h0 h3 (by omega) (show ((2 : Int32)) = nI 2 from rfl) (by decide) dL_law_261 dL_law_262 dL_law_263 dL_law_264 dL_law_265 ?_
  refine l_callm C 2 [.int (xs (j + 1)), .int (xs (j + 2))] (c_X9_ofDoer (vD9 C) (xs (j + 1)) (xs (j + 2)) T) h9 wd_912 wd_913 wd_914 wd_10 wd_915 hy_X9_ofDoer rfl (by decide) (by decide) hl.1 (Nat.le_of_ble_eq_true rfl) rfl dL_law_266 ?_
  refine fun H locs hP hS => lv_icmp_eq (tgt := 1419) C.1.1 C.1.2.1 dL_law_269 (by decide) (fun hc => ?_) (fun hc => ?_)
  · exact next S1 T1 hR1 H locs hP hS
  · exact absurd rfl hc
theorem lc_ofPen {R : Sto → Sto → Prop} (C : CLw ad ad2 cI D tS p s m meth c b L xs) {j : Nat} (hok : Ok R (F_X8_ofPen (xs (j + 1)) (xs (j + 2)) S) (F_X9_ofPen (xs (j + 1)) (xs (j + 2)) T)) (hj : j + 7 ≤ L) (hl : lv_has ls 4 [(0, .ref b), (1, .ref (ad 0)), (2, .ref (ad2 0)), (3, .int (nI j))]) (next : ∀ S1 T1, R S1 T1 → LW ad ad2 cI D p l e s m below meth c b S1 T1 (F0 m 1419 ls [])) : LW ad ad2 cI D p l e s m below meth c b S T (F0 m 274 ls []) := by
  obtain ⟨r, S1, T1, h8, h9, hR1⟩ := hok
  have h0 := lv_at hl 0 rfl
  have h3 := lv_at hl 3 rfl
  refine l_aload C dL_law_274 rfl (lv_at hl 1 rfl) ?_
  refine l_arg (a1 := 0) (a2 := 0) (a3 := 0) (a4 := 0) C j 1 hl h0 h3 (by omega) (show ((1 : Int32)) = nI 1 from rfl) (by decide) dL_law_275 dL_law_276 dL_law_277 dL_law_278 dL_law_279 ?_
  refine l_arg (a1 := 0) (a2 := 0) (a3 := 0) (a4 := 0) C j 2 hl h0 h3 (by omega) (show ((2 : Int32)) = nI 2 from rfl) (by decide) dL_law_280 dL_law_281 dL_law_282 dL_law_283 dL_law_284 ?_
  refine l_callc C 2 [.int (xs (j + 1)), .int (xs (j + 2))] (c_X8_ofPen (vD8 C) (xs (j + 1)) (xs (j + 2)) S) h8 wd_399 wd_400 wd_401 wd_1 wd_402 hy_X8_ofPen rfl (by decide) (by decide) hl.1 (Nat.le_of_ble_eq_true rfl) rfl dL_law_285 ?_
  refine l_aload C dL_law_288 rfl (lv_at hl 2 rfl) ?_
  refine l_arg (a1 := 0) (a2 := 0) (a3 := 0) (a4 := 0) C j 1 hl h0 h3 (by omega) (show ((1 : Int32)) = nI 1 from rfl) (by decide) dL_law_289 dL_law_290 dL_law_291 dL_law_292 dL_law_293 ?_
  refine l_arg (a1 := 0) (a2 := 0) (a3 := 0) (a4 := 0) C j 2 hl h0 h3 (by omega) (show ((2 : Int32)) = nI 2 from rfl) (by decide) dL_law_294 dL_law_295 dL_law_296 dL_law_297 dL_law_298 ?_
  refine l_callm C 2 [.int (xs (j + 1)), .int (xs (j + 2))] (c_X9_ofPen (vD9 C) (xs (j + 1)) (xs (j + 2)) T) h9 wd_932 wd_933 wd_934 wd_10 wd_935 hy_X9_ofPen rfl (by decide) (by decide) hl.1 (Nat.le_of_ble_eq_true rfl) rfl dL_law_299 ?_
  refine fun H locs hP hS => lv_icmp_eq (tgt := 1419) C.1.1 C.1.2.1 dL_law_302 (by decide) (fun hc => ?_) (fun hc => ?_)
  · exact next S1 T1 hR1 H locs hP hS
  · exact absurd rfl hc
theorem lc_creak {R : Sto → Sto → Prop} (C : CLw ad ad2 cI D tS p s m meth c b L xs) {j : Nat} (hok : Ok R (F_X8_creak (xs (j + 1)) S) (F_X9_creak (xs (j + 1)) T)) (hj : j + 7 ≤ L) (hl : lv_has ls 4 [(0, .ref b), (1, .ref (ad 0)), (2, .ref (ad2 0)), (3, .int (nI j))]) (next : ∀ S1 T1, R S1 T1 → LW ad ad2 cI D p l e s m below meth c b S1 T1 (F0 m 1419 ls [])) : LW ad ad2 cI D p l e s m below meth c b S T (F0 m 307 ls []) := by
  obtain ⟨r, S1, T1, h8, h9, hR1⟩ := hok
  have h0 := lv_at hl 0 rfl
  have h3 := lv_at hl 3 rfl
  refine l_aload C dL_law_307 rfl (lv_at hl 1 rfl) ?_
  refine l_arg (a1 := 0) (a2 := 0) (a3 := 0) (a4 := 0) C j 1 hl h0 h3 (by omega) (show ((1 : Int32)) = nI 1 from rfl) (by decide) dL_law_308 dL_law_309 dL_law_310 dL_law_311 dL_law_312 ?_
  refine l_callc C 1 [.int (xs (j + 1))] (c_X8_creak (vD8 C) (xs (j + 1)) S) h8 wd_407 wd_408 wd_409 wd_1 wd_410 hy_X8_creak rfl (by decide) (by decide) hl.1 (Nat.le_of_ble_eq_true rfl) rfl dL_law_313 ?_
  refine l_aload C dL_law_316 rfl (lv_at hl 2 rfl) ?_
  refine l_arg (a1 := 0) (a2 := 0) (a3 := 0) (a4 := 0) C j 1 hl h0 h3 (by omega) (show ((1 : Int32)) = nI 1 from rfl) (by decide) dL_law_317 dL_law_318 dL_law_319 dL_law_320 dL_law_321 ?_
  refine l_callm C 1 [.int (xs (j + 1))] (c_X9_creak (vD9 C) (xs (j + 1)) T) h9 wd_940 wd_941 wd_942 wd_10 wd_943 hy_X9_creak rfl (by decide) (by decide) hl.1 (Nat.le_of_ble_eq_true rfl) rfl dL_law_322 ?_
  refine fun H locs hP hS => lv_icmp_eq (tgt := 1419) C.1.1 C.1.2.1 dL_law_325 (by decide) (fun hc => ?_) (fun hc => ?_)
  · exact next S1 T1 hR1 H locs hP hS
  · exact absurd rfl hc
theorem lc_oil {R : Sto → Sto → Prop} (C : CLw ad ad2 cI D tS p s m meth c b L xs) {j : Nat} (hok : Ok R (F_X8_oil (xs (j + 1)) (xs (j + 2)) S) (F_X9_oil (xs (j + 1)) (xs (j + 2)) T)) (hj : j + 7 ≤ L) (hl : lv_has ls 4 [(0, .ref b), (1, .ref (ad 0)), (2, .ref (ad2 0)), (3, .int (nI j))]) (next : ∀ S1 T1, R S1 T1 → LW ad ad2 cI D p l e s m below meth c b S1 T1 (F0 m 1419 ls [])) : LW ad ad2 cI D p l e s m below meth c b S T (F0 m 330 ls []) := by
  obtain ⟨r, S1, T1, h8, h9, hR1⟩ := hok
  have h0 := lv_at hl 0 rfl
  have h3 := lv_at hl 3 rfl
  refine l_aload C dL_law_330 rfl (lv_at hl 1 rfl) ?_
  refine l_arg (a1 := 0) (a2 := 0) (a3 := 0) (a4 := 0) C j 1 hl h0 h3 (by omega) (show ((1 : Int32)) = nI 1 from rfl) (by decide) dL_law_331 dL_law_332 dL_law_333 dL_law_334 dL_law_335 ?_
  refine l_arg (a1 := 0) (a2 := 0) (a3 := 0) (a4 := 0) C j 2 hl h0 h3 (by omega) (show ((2 : Int32)) = nI 2 from rfl) (by decide) dL_law_336 dL_law_337 dL_law_338 dL_law_339 dL_law_340 ?_
  refine l_callc C 2 [.int (xs (j + 1)), .int (xs (j + 2))] (c_X8_oil (vD8 C) (xs (j + 1)) (xs (j + 2)) S) h8 wd_412 wd_413 wd_414 wd_1 wd_415 hy_X8_oil rfl (by decide) (by decide) hl.1 (Nat.le_of_ble_eq_true rfl) rfl dL_law_341 ?_
  refine l_aload C dL_law_344 rfl (lv_at hl 2 rfl) ?_
  refine l_arg (a1 := 0) (a2 := 0) (a3 := 0) (a4 := 0) C j 1 hl h0 h3 (by omega) (show ((1 : Int32)) = nI 1 from rfl) (by decide) dL_law_345 dL_law_346 dL_law_347 dL_law_348 dL_law_349 ?_
  refine l_arg (a1 := 0) (a2 := 0) (a3 := 0) (a4 := 0) C j 2 hl h0 h3 (by omega) (show ((2 : Int32)) = nI 2 from rfl) (by decide) dL_law_350 dL_law_351 dL_law_352 dL_law_353 dL_law_354 ?_
  refine l_callm C 2 [.int (xs (j + 1)), .int (xs (j + 2))] (c_X9_oil (vD9 C) (xs (j + 1)) (xs (j + 2)) T) h9 wd_944 wd_945 wd_946 wd_10 wd_947 hy_X9_oil rfl (by decide) (by decide) hl.1 (Nat.le_of_ble_eq_true rfl) rfl dL_law_355 ?_
  refine fun H locs hP hS => lv_icmp_eq (tgt := 1419) C.1.1 C.1.2.1 dL_law_358 (by decide) (fun hc => ?_) (fun hc => ?_)
  · exact next S1 T1 hR1 H locs hP hS
  · exact absurd rfl hc
theorem lc_dine {R : Sto → Sto → Prop} (C : CLw ad ad2 cI D tS p s m meth c b L xs) {j : Nat} (hok : Ok R (F_X8_dine (xs (j + 1)) (xs (j + 2)) S) (F_X9_dine (xs (j + 1)) (xs (j + 2)) T)) (hj : j + 7 ≤ L) (hl : lv_has ls 4 [(0, .ref b), (1, .ref (ad 0)), (2, .ref (ad2 0)), (3, .int (nI j))]) (next : ∀ S1 T1, R S1 T1 → LW ad ad2 cI D p l e s m below meth c b S1 T1 (F0 m 1419 ls [])) : LW ad ad2 cI D p l e s m below meth c b S T (F0 m 363 ls []) := by
  obtain ⟨r, S1, T1, h8, h9, hR1⟩ := hok
  have h0 := lv_at hl 0 rfl
  have h3 := lv_at hl 3 rfl
  refine l_aload C dL_law_363 rfl (lv_at hl 1 rfl) ?_
  refine l_arg (a1 := 0) (a2 := 0) (a3 := 0) (a4 := 0) C j 1 hl h0 h3 (by omega) (show ((1 : Int32)) = nI 1 from rfl) (by decide) dL_law_364 dL_law_365 dL_law_366 dL_law_367 dL_law_368 ?_
  refine l_arg (a1 := 0) (a2 := 0) (a3 := 0) (a4 := 0) C j 2 hl h0 h3 (by omega) (show ((2 : Int32)) = nI 2 from rfl) (by decide) dL_law_369 dL_law_370 dL_law_371 dL_law_372 dL_law_373 ?_
  refine l_callc C 2 [.int (xs (j + 1)), .int (xs (j + 2))] (c_X8_dine (vD8 C) (xs (j + 1)) (xs (j + 2)) S) h8 wd_419 wd_420 wd_421 wd_1 wd_422 hy_X8_dine rfl (by decide) (by decide) hl.1 (Nat.le_of_ble_eq_true rfl) rfl dL_law_374 ?_
  refine l_aload C dL_law_377 rfl (lv_at hl 2 rfl) ?_
  refine l_arg (a1 := 0) (a2 := 0) (a3 := 0) (a4 := 0) C j 1 hl h0 h3 (by omega) (show ((1 : Int32)) = nI 1 from rfl) (by decide) dL_law_378 dL_law_379 dL_law_380 dL_law_381 dL_law_382 ?_
  refine l_arg (a1 := 0) (a2 := 0) (a3 := 0) (a4 := 0) C j 2 hl h0 h3 (by omega) (show ((2 : Int32)) = nI 2 from rfl) (by decide) dL_law_383 dL_law_384 dL_law_385 dL_law_386 dL_law_387 ?_
  refine l_callm C 2 [.int (xs (j + 1)), .int (xs (j + 2))] (c_X9_dine (vD9 C) (xs (j + 1)) (xs (j + 2)) T) h9 wd_951 wd_952 wd_953 wd_10 wd_954 hy_X9_dine rfl (by decide) (by decide) hl.1 (Nat.le_of_ble_eq_true rfl) rfl dL_law_388 ?_
  refine fun H locs hP hS => lv_icmp_eq (tgt := 1419) C.1.1 C.1.2.1 dL_law_391 (by decide) (fun hc => ?_) (fun hc => ?_)
  · exact next S1 T1 hR1 H locs hP hS
  · exact absurd rfl hc
theorem lc_carry {R : Sto → Sto → Prop} (C : CLw ad ad2 cI D tS p s m meth c b L xs) {j : Nat} (hok : Ok R (F_X8_carry (xs (j + 1)) (xs (j + 2)) S) (F_X9_carry (xs (j + 1)) (xs (j + 2)) T)) (hj : j + 7 ≤ L) (hl : lv_has ls 4 [(0, .ref b), (1, .ref (ad 0)), (2, .ref (ad2 0)), (3, .int (nI j))]) (next : ∀ S1 T1, R S1 T1 → LW ad ad2 cI D p l e s m below meth c b S1 T1 (F0 m 1419 ls [])) : LW ad ad2 cI D p l e s m below meth c b S T (F0 m 396 ls []) := by
  obtain ⟨r, S1, T1, h8, h9, hR1⟩ := hok
  have h0 := lv_at hl 0 rfl
  have h3 := lv_at hl 3 rfl
  refine l_aload C dL_law_396 rfl (lv_at hl 1 rfl) ?_
  refine l_arg (a1 := 0) (a2 := 0) (a3 := 0) (a4 := 0) C j 1 hl h0 h3 (by omega) (show ((1 : Int32)) = nI 1 from rfl) (by decide) dL_law_397 dL_law_398 dL_law_399 dL_law_400 dL_law_401 ?_
  refine l_arg (a1 := 0) (a2 := 0) (a3 := 0) (a4 := 0) C j 2 hl h0 h3 (by omega) (show ((2 : Int32)) = nI 2 from rfl) (by decide) dL_law_402 dL_law_403 dL_law_404 dL_law_405 dL_law_406 ?_
  refine l_callc C 2 [.int (xs (j + 1)), .int (xs (j + 2))] (c_X8_carry (vD8 C) (xs (j + 1)) (xs (j + 2)) S) h8 wd_423 wd_424 wd_425 wd_1 wd_426 hy_X8_carry rfl (by decide) (by decide) hl.1 (Nat.le_of_ble_eq_true rfl) rfl dL_law_407 ?_
  refine l_aload C dL_law_410 rfl (lv_at hl 2 rfl) ?_
  refine l_arg (a1 := 0) (a2 := 0) (a3 := 0) (a4 := 0) C j 1 hl h0 h3 (by omega) (show ((1 : Int32)) = nI 1 from rfl) (by decide) dL_law_411 dL_law_412 dL_law_413 dL_law_414 dL_law_415 ?_
  refine l_arg (a1 := 0) (a2 := 0) (a3 := 0) (a4 := 0) C j 2 hl h0 h3 (by omega) (show ((2 : Int32)) = nI 2 from rfl) (by decide) dL_law_416 dL_law_417 dL_law_418 dL_law_419 dL_law_420 ?_
  refine l_callm C 2 [.int (xs (j + 1)), .int (xs (j + 2))] (c_X9_carry (vD9 C) (xs (j + 1)) (xs (j + 2)) T) h9 wd_955 wd_956 wd_957 wd_10 wd_958 hy_X9_carry rfl (by decide) (by decide) hl.1 (Nat.le_of_ble_eq_true rfl) rfl dL_law_421 ?_
  refine fun H locs hP hS => lv_icmp_eq (tgt := 1419) C.1.1 C.1.2.1 dL_law_424 (by decide) (fun hc => ?_) (fun hc => ?_)
  · exact next S1 T1 hR1 H locs hP hS
  · exact absurd rfl hc
theorem lc_leap {R : Sto → Sto → Prop} (C : CLw ad ad2 cI D tS p s m meth c b L xs) {j : Nat} (hok : Ok R (F_X8_leap (xs (j + 1)) S) (F_X9_leap (xs (j + 1)) T)) (hj : j + 7 ≤ L) (hl : lv_has ls 4 [(0, .ref b), (1, .ref (ad 0)), (2, .ref (ad2 0)), (3, .int (nI j))]) (next : ∀ S1 T1, R S1 T1 → LW ad ad2 cI D p l e s m below meth c b S1 T1 (F0 m 1419 ls [])) : LW ad ad2 cI D p l e s m below meth c b S T (F0 m 429 ls []) := by
  obtain ⟨r, S1, T1, h8, h9, hR1⟩ := hok
  have h0 := lv_at hl 0 rfl
  have h3 := lv_at hl 3 rfl
  refine l_aload C dL_law_429 rfl (lv_at hl 1 rfl) ?_
  refine l_arg (a1 := 0) (a2 := 0) (a3 := 0) (a4 := 0) C j 1 hl h0 h3 (by omega) (show ((1 : Int32)) = nI 1 from rfl) (by decide) dL_law_430 dL_law_431 dL_law_432 dL_law_433 dL_law_434 ?_
  refine l_callc C 1 [.int (xs (j + 1))] (c_X8_leap (vD8 C) (xs (j + 1)) S) h8 wd_427 wd_428 wd_429 wd_1 wd_430 hy_X8_leap rfl (by decide) (by decide) hl.1 (Nat.le_of_ble_eq_true rfl) rfl dL_law_435 ?_
  refine l_aload C dL_law_438 rfl (lv_at hl 2 rfl) ?_
  refine l_arg (a1 := 0) (a2 := 0) (a3 := 0) (a4 := 0) C j 1 hl h0 h3 (by omega) (show ((1 : Int32)) = nI 1 from rfl) (by decide) dL_law_439 dL_law_440 dL_law_441 dL_law_442 dL_law_443 ?_
  refine l_callm C 1 [.int (xs (j + 1))] (c_X9_leap (vD9 C) (xs (j + 1)) T) h9 wd_959 wd_960 wd_961 wd_10 wd_962 hy_X9_leap rfl (by decide) (by decide) hl.1 (Nat.le_of_ble_eq_true rfl) rfl dL_law_444 ?_
  refine fun H locs hP hS => lv_icmp_eq (tgt := 1419) C.1.1 C.1.2.1 dL_law_447 (by decide) (fun hc => ?_) (fun hc => ?_)
  · exact next S1 T1 hR1 H locs hP hS
  · exact absurd rfl hc
theorem lc_bump {R : Sto → Sto → Prop} (C : CLw ad ad2 cI D tS p s m meth c b L xs) {j : Nat} (hok : Ok R (F_X8_bump (xs (j + 1)) (xs (j + 2)) (xs (j + 3)) S) (F_X9_bump (xs (j + 1)) (xs (j + 2)) (xs (j + 3)) T)) (hj : j + 7 ≤ L) (hl : lv_has ls 4 [(0, .ref b), (1, .ref (ad 0)), (2, .ref (ad2 0)), (3, .int (nI j))]) (next : ∀ S1 T1, R S1 T1 → LW ad ad2 cI D p l e s m below meth c b S1 T1 (F0 m 1419 ls [])) : LW ad ad2 cI D p l e s m below meth c b S T (F0 m 452 ls []) := by
  obtain ⟨r, S1, T1, h8, h9, hR1⟩ := hok
  have h0 := lv_at hl 0 rfl
  have h3 := lv_at hl 3 rfl
  refine l_aload C dL_law_452 rfl (lv_at hl 1 rfl) ?_
  refine l_arg (a1 := 0) (a2 := 0) (a3 := 0) (a4 := 0) C j 1 hl h0 h3 (by omega) (show ((1 : Int32)) = nI 1 from rfl) (by decide) dL_law_453 dL_law_454 dL_law_455 dL_law_456 dL_law_457 ?_
  refine l_arg (a1 := 0) (a2 := 0) (a3 := 0) (a4 := 0) C j 2 hl h0 h3 (by omega) (show ((2 : Int32)) = nI 2 from rfl) (by decide) dL_law_458 dL_law_459 dL_law_460 dL_law_461 dL_law_462 ?_
  refine l_arg (a1 := 0) (a2 := 0) (a3 := 0) (a4 := 0) C j 3 hl h0 h3 (by omega) (show ((3 : Int32)) = nI 3 from rfl) (by decide) dL_law_463 dL_law_464 dL_law_465 dL_law_466 dL_law_467 ?_
  refine l_callc C 3 [.int (xs (j + 1)), .int (xs (j + 2)), .int (xs (j + 3))] (c_X8_bump (vD8 C) (xs (j + 1)) (xs (j + 2)) (xs (j + 3)) S) h8 wd_435 wd_436 wd_437 wd_1 wd_438 hy_X8_bump rfl (by decide) (by decide) hl.1 (Nat.le_of_ble_eq_true rfl) rfl dL_law_468 ?_
  refine l_aload C dL_law_471 rfl (lv_at hl 2 rfl) ?_
  refine l_arg (a1 := 0) (a2 := 0) (a3 := 0) (a4 := 0) C j 1 hl h0 h3 (by omega) (show ((1 : Int32)) = nI 1 from rfl) (by decide) dL_law_472 dL_law_473 dL_law_474 dL_law_475 dL_law_476 ?_
  refine l_arg (a1 := 0) (a2 := 0) (a3 := 0) (a4 := 0) C j 2 hl h0 h3 (by omega) (show ((2 : Int32)) = nI 2 from rfl) (by decide) dL_law_477 dL_law_478 dL_law_479 dL_law_480 dL_law_481 ?_
  refine l_arg (a1 := 0) (a2 := 0) (a3 := 0) (a4 := 0) C j 3 hl h0 h3 (by omega) (show ((3 : Int32)) = nI 3 from rfl) (by decide) dL_law_482 dL_law_483 dL_law_484 dL_law_485 dL_law_486 ?_
  refine l_callm C 3 [.int (xs (j + 1)), .int (xs (j + 2)), .int (xs (j + 3))] (c_X9_bump (vD9 C) (xs (j + 1)) (xs (j + 2)) (xs (j + 3)) T) h9 wd_963 wd_964 wd_965 wd_10 wd_966 hy_X9_bump rfl (by decide) (by decide) hl.1 (Nat.le_of_ble_eq_true rfl) rfl dL_law_487 ?_
  refine fun H locs hP hS => lv_icmp_eq (tgt := 1419) C.1.1 C.1.2.1 dL_law_490 (by decide) (fun hc => ?_) (fun hc => ?_)
  · exact next S1 T1 hR1 H locs hP hS
  · exact absurd rfl hc
theorem lc_step {R : Sto → Sto → Prop} (C : CLw ad ad2 cI D tS p s m meth c b L xs) {j : Nat} (hok : Ok R (F_X8_step (xs (j + 1)) (xs (j + 2)) S) (F_X9_step (xs (j + 1)) (xs (j + 2)) T)) (hj : j + 7 ≤ L) (hl : lv_has ls 4 [(0, .ref b), (1, .ref (ad 0)), (2, .ref (ad2 0)), (3, .int (nI j))]) (next : ∀ S1 T1, R S1 T1 → LW ad ad2 cI D p l e s m below meth c b S1 T1 (F0 m 1419 ls [])) : LW ad ad2 cI D p l e s m below meth c b S T (F0 m 495 ls []) := by
  obtain ⟨r, S1, T1, h8, h9, hR1⟩ := hok
  have h0 := lv_at hl 0 rfl
  have h3 := lv_at hl 3 rfl
  refine l_aload C dL_law_495 rfl (lv_at hl 1 rfl) ?_
  refine l_arg (a1 := 0) (a2 := 0) (a3 := 0) (a4 := 0) C j 1 hl h0 h3 (by omega) (show ((1 : Int32)) = nI 1 from rfl) (by decide) dL_law_496 dL_law_497 dL_law_498 dL_law_499 dL_law_500 ?_
  refine l_arg (a1 := 0) (a2 := 0) (a3 := 0) (a4 := 0) C j 2 hl h0 h3 (by omega) (show ((2 : Int32)) = nI 2 from rfl) (by decide) dL_law_501 dL_law_502 dL_law_503 dL_law_504 dL_law_505 ?_
  refine l_callc C 2 [.int (xs (j + 1)), .int (xs (j + 2))] (c_X8_step (vD8 C) (xs (j + 1)) (xs (j + 2)) S) h8 wd_454 wd_455 wd_456 wd_1 wd_457 hy_X8_step rfl (by decide) (by decide) hl.1 (Nat.le_of_ble_eq_true rfl) rfl dL_law_506 ?_
  refine l_aload C dL_law_509 rfl (lv_at hl 2 rfl) ?_
  refine l_arg (a1 := 0) (a2 := 0) (a3 := 0) (a4 := 0) C j 1 hl h0 h3 (by omega) (show ((1 : Int32)) = nI 1 from rfl) (by decide) dL_law_510 dL_law_511 dL_law_512 dL_law_513 dL_law_514 ?_
  refine l_arg (a1 := 0) (a2 := 0) (a3 := 0) (a4 := 0) C j 2 hl h0 h3 (by omega) (show ((2 : Int32)) = nI 2 from rfl) (by decide) dL_law_515 dL_law_516 dL_law_517 dL_law_518 dL_law_519 ?_
  refine l_callm C 2 [.int (xs (j + 1)), .int (xs (j + 2))] (c_X9_step (vD9 C) (xs (j + 1)) (xs (j + 2)) T) h9 wd_978 wd_979 wd_980 wd_10 wd_981 hy_X9_step rfl (by decide) (by decide) hl.1 (Nat.le_of_ble_eq_true rfl) rfl dL_law_520 ?_
  refine fun H locs hP hS => lv_icmp_eq (tgt := 1419) C.1.1 C.1.2.1 dL_law_523 (by decide) (fun hc => ?_) (fun hc => ?_)
  · exact next S1 T1 hR1 H locs hP hS
  · exact absurd rfl hc
theorem lc_paper {R : Sto → Sto → Prop} (C : CLw ad ad2 cI D tS p s m meth c b L xs) {j : Nat} (hok : Ok R (F_X8_paper  S) (F_X9_paper  T)) (hj : j + 7 ≤ L) (hl : lv_has ls 4 [(0, .ref b), (1, .ref (ad 0)), (2, .ref (ad2 0)), (3, .int (nI j))]) (next : ∀ S1 T1, R S1 T1 → LW ad ad2 cI D p l e s m below meth c b S1 T1 (F0 m 1419 ls [])) : LW ad ad2 cI D p l e s m below meth c b S T (F0 m 528 ls []) := by
  obtain ⟨r, S1, T1, h8, h9, hR1⟩ := hok
  have h0 := lv_at hl 0 rfl
  have h3 := lv_at hl 3 rfl
  refine l_aload C dL_law_528 rfl (lv_at hl 1 rfl) ?_
  refine l_callc C 0 [] (c_X8_paper (vD8 C)  S) h8 wd_463 wd_464 wd_465 wd_1 wd_466 hy_X8_paper rfl (by decide) (by decide) hl.1 (Nat.le_of_ble_eq_true rfl) rfl dL_law_529 ?_
  refine l_aload C dL_law_532 rfl (lv_at hl 2 rfl) ?_
  refine l_callm C 0 [] (c_X9_paper (vD9 C)  T) h9 wd_982 wd_983 wd_984 wd_10 wd_985 hy_X9_paper rfl (by decide) (by decide) hl.1 (Nat.le_of_ble_eq_true rfl) rfl dL_law_533 ?_
  refine fun H locs hP hS => lv_icmp_eq (tgt := 1419) C.1.1 C.1.2.1 dL_law_536 (by decide) (fun hc => ?_) (fun hc => ?_)
  · exact next S1 T1 hR1 H locs hP hS
  · exact absurd rfl hc
theorem lc_night {R : Sto → Sto → Prop} (C : CLw ad ad2 cI D tS p s m meth c b L xs) {j : Nat} (hok : Ok R (F_X8_night (xs (j + 1)) (xs (j + 2)) (xs (j + 3)) (xs (j + 4)) (xs (j + 5)) (xs (j + 6)) S) (F_X9_night (xs (j + 1)) (xs (j + 2)) (xs (j + 3)) (xs (j + 4)) (xs (j + 5)) (xs (j + 6)) T)) (hj : j + 7 ≤ L) (hl : lv_has ls 4 [(0, .ref b), (1, .ref (ad 0)), (2, .ref (ad2 0)), (3, .int (nI j))]) (next : ∀ S1 T1, R S1 T1 → LW ad ad2 cI D p l e s m below meth c b S1 T1 (F0 m 1419 ls [])) : LW ad ad2 cI D p l e s m below meth c b S T (F0 m 541 ls []) := by
  obtain ⟨r, S1, T1, h8, h9, hR1⟩ := hok
  have h0 := lv_at hl 0 rfl
  have h3 := lv_at hl 3 rfl
  refine l_aload C dL_law_541 rfl (lv_at hl 1 rfl) ?_
  refine l_arg (a1 := 0) (a2 := 0) (a3 := 0) (a4 := 0) C j 1 hl h0 h3 (by omega) (show ((1 : Int32)) = nI 1 from rfl) (by decide) dL_law_542 dL_law_543 dL_law_544 dL_law_545 dL_law_546 ?_
  refine l_arg (a1 := 0) (a2 := 0) (a3 := 0) (a4 := 0) C j 2 hl h0 h3 (by omega) (show ((2 : Int32)) = nI 2 from rfl) (by decide) dL_law_547 dL_law_548 dL_law_549 dL_law_550 dL_law_551 ?_
  refine l_arg (a1 := 0) (a2 := 0) (a3 := 0) (a4 := 0) C j 3 hl h0 h3 (by omega) (show ((3 : Int32)) = nI 3 from rfl) (by decide) dL_law_552 dL_law_553 dL_law_554 dL_law_555 dL_law_556 ?_
  refine l_arg (a1 := 0) (a2 := 0) (a3 := 0) (a4 := 0) C j 4 hl h0 h3 (by omega) (show ((4 : Int32)) = nI 4 from rfl) (by decide) dL_law_557 dL_law_558 dL_law_559 dL_law_560 dL_law_561 ?_
  refine l_arg (a1 := 0) (a2 := 0) (a3 := 0) (a4 := 0) C j 5 hl h0 h3 (by omega) (show ((5 : Int32)) = nI 5 from rfl) (by decide) dL_law_562 dL_law_563 dL_law_564 dL_law_565 dL_law_566 ?_
  refine l_argb C j 6 hl h0 h3 (by omega) (show ((6 : Int32)) = nI 6 from rfl) (by decide) dL_law_567 dL_law_568 dL_law_569 dL_law_571 dL_law_572 ?_
  refine l_callc C 6 [.int (xs (j + 1)), .int (xs (j + 2)), .int (xs (j + 3)), .int (xs (j + 4)), .int (xs (j + 5)), .int (xs (j + 6))] (c_X8_night (vD8 C) (xs (j + 1)) (xs (j + 2)) (xs (j + 3)) (xs (j + 4)) (xs (j + 5)) (xs (j + 6)) S) h8 wd_468 wd_469 wd_470 wd_1 wd_471 hy_X8_night rfl (by decide) (by decide) hl.1 (Nat.le_of_ble_eq_true rfl) rfl dL_law_573 ?_
  refine l_aload C dL_law_576 rfl (lv_at hl 2 rfl) ?_
  refine l_arg (a1 := 0) (a2 := 0) (a3 := 0) (a4 := 0) C j 1 hl h0 h3 (by omega) (show ((1 : Int32)) = nI 1 from rfl) (by decide) dL_law_577 dL_law_578 dL_law_579 dL_law_580 dL_law_581 ?_
  refine l_arg (a1 := 0) (a2 := 0) (a3 := 0) (a4 := 0) C j 2 hl h0 h3 (by omega) (show ((2 : Int32)) = nI 2 from rfl) (by decide) dL_law_582 dL_law_583 dL_law_584 dL_law_585 dL_law_586 ?_
  refine l_arg (a1 := 0) (a2 := 0) (a3 := 0) (a4 := 0) C j 3 hl h0 h3 (by omega) (show ((3 : Int32)) = nI 3 from rfl) (by decide) dL_law_587 dL_law_588 dL_law_589 dL_law_590 dL_law_591 ?_
  refine l_arg (a1 := 0) (a2 := 0) (a3 := 0) (a4 := 0) C j 4 hl h0 h3 (by omega) (show ((4 : Int32)) = nI 4 from rfl) (by decide) dL_law_592 dL_law_593 dL_law_594 dL_law_595 dL_law_596 ?_
  refine l_arg (a1 := 0) (a2 := 0) (a3 := 0) (a4 := 0) C j 5 hl h0 h3 (by omega) (show ((5 : Int32)) = nI 5 from rfl) (by decide) dL_law_597 dL_law_598 dL_law_599 dL_law_600 dL_law_601 ?_
  refine l_argb C j 6 hl h0 h3 (by omega) (show ((6 : Int32)) = nI 6 from rfl) (by decide) dL_law_602 dL_law_603 dL_law_604 dL_law_606 dL_law_607 ?_
  refine l_callm C 6 [.int (xs (j + 1)), .int (xs (j + 2)), .int (xs (j + 3)), .int (xs (j + 4)), .int (xs (j + 5)), .int (xs (j + 6))] (c_X9_night (vD9 C) (xs (j + 1)) (xs (j + 2)) (xs (j + 3)) (xs (j + 4)) (xs (j + 5)) (xs (j + 6)) T) h9 wd_986 wd_987 wd_988 wd_10 wd_989 hy_X9_night rfl (by decide) (by decide) hl.1 (Nat.le_of_ble_eq_true rfl) rfl dL_law_608 ?_
  refine fun H locs hP hS => lv_icmp_eq (tgt := 1419) C.1.1 C.1.2.1 dL_law_611 (by decide) (fun hc => ?_) (fun hc => ?_)
  · exact next S1 T1 hR1 H locs hP hS
  · exact absurd rfl hc
theorem lc_quiet {R : Sto → Sto → Prop} (C : CLw ad ad2 cI D tS p s m meth c b L xs) {j : Nat} (hok : Ok R (F_X8_quiet (xs (j + 1)) (xs (j + 2)) (xs (j + 3)) S) (F_X9_quiet (xs (j + 1)) (xs (j + 2)) (xs (j + 3)) T)) (hj : j + 7 ≤ L) (hl : lv_has ls 4 [(0, .ref b), (1, .ref (ad 0)), (2, .ref (ad2 0)), (3, .int (nI j))]) (next : ∀ S1 T1, R S1 T1 → LW ad ad2 cI D p l e s m below meth c b S1 T1 (F0 m 1419 ls [])) : LW ad ad2 cI D p l e s m below meth c b S T (F0 m 616 ls []) := by
  obtain ⟨r, S1, T1, h8, h9, hR1⟩ := hok
  have h0 := lv_at hl 0 rfl
  have h3 := lv_at hl 3 rfl
  refine l_aload C dL_law_616 rfl (lv_at hl 1 rfl) ?_
  refine l_arg (a1 := 0) (a2 := 0) (a3 := 0) (a4 := 0) C j 1 hl h0 h3 (by omega) (show ((1 : Int32)) = nI 1 from rfl) (by decide) dL_law_617 dL_law_618 dL_law_619 dL_law_620 dL_law_621 ?_
  refine l_arg (a1 := 0) (a2 := 0) (a3 := 0) (a4 := 0) C j 2 hl h0 h3 (by omega) (show ((2 : Int32)) = nI 2 from rfl) (by decide) dL_law_622 dL_law_623 dL_law_624 dL_law_625 dL_law_626 ?_
  refine l_arg (a1 := 0) (a2 := 0) (a3 := 0) (a4 := 0) C j 3 hl h0 h3 (by omega) (show ((3 : Int32)) = nI 3 from rfl) (by decide) dL_law_627 dL_law_628 dL_law_629 dL_law_630 dL_law_631 ?_
  refine l_callc C 3 [.int (xs (j + 1)), .int (xs (j + 2)), .int (xs (j + 3))] (c_X8_quiet (vD8 C) (xs (j + 1)) (xs (j + 2)) (xs (j + 3)) S) h8 wd_509 wd_510 wd_511 wd_1 wd_512 hy_X8_quiet rfl (by decide) (by decide) hl.1 (Nat.le_of_ble_eq_true rfl) rfl dL_law_632 ?_
  refine l_aload C dL_law_635 rfl (lv_at hl 2 rfl) ?_
  refine l_arg (a1 := 0) (a2 := 0) (a3 := 0) (a4 := 0) C j 1 hl h0 h3 (by omega) (show ((1 : Int32)) = nI 1 from rfl) (by decide) dL_law_636 dL_law_637 dL_law_638 dL_law_639 dL_law_640 ?_
  refine l_arg (a1 := 0) (a2 := 0) (a3 := 0) (a4 := 0) C j 2 hl h0 h3 (by omega) (show ((2 : Int32)) = nI 2 from rfl) (by decide) dL_law_641 dL_law_642 dL_law_643 dL_law_644 dL_law_645 ?_
  refine l_arg (a1 := 0) (a2 := 0) (a3 := 0) (a4 := 0) C j 3 hl h0 h3 (by omega) (show ((3 : Int32)) = nI 3 from rfl) (by decide) dL_law_646 dL_law_647 dL_law_648 dL_law_649 dL_law_650 ?_
  refine l_callm C 3 [.int (xs (j + 1)), .int (xs (j + 2)), .int (xs (j + 3))] (c_X9_quiet (vD9 C) (xs (j + 1)) (xs (j + 2)) (xs (j + 3)) T) h9 wd_998 wd_999 wd_1000 wd_10 wd_1001 hy_X9_quiet rfl (by decide) (by decide) hl.1 (Nat.le_of_ble_eq_true rfl) rfl dL_law_651 ?_
  refine fun H locs hP hS => lv_icmp_eq (tgt := 1419) C.1.1 C.1.2.1 dL_law_654 (by decide) (fun hc => ?_) (fun hc => ?_)
  · exact next S1 T1 hR1 H locs hP hS
  · exact absurd rfl hc
theorem lc_meet {R : Sto → Sto → Prop} (C : CLw ad ad2 cI D tS p s m meth c b L xs) {j : Nat} (hok : Ok R (F_X8_meet (xs (j + 1)) (xs (j + 2)) (xs (j + 3)) S) (F_X9_meet (xs (j + 1)) (xs (j + 2)) (xs (j + 3)) T)) (hj : j + 7 ≤ L) (hl : lv_has ls 4 [(0, .ref b), (1, .ref (ad 0)), (2, .ref (ad2 0)), (3, .int (nI j))]) (next : ∀ S1 T1, R S1 T1 → LW ad ad2 cI D p l e s m below meth c b S1 T1 (F0 m 1419 ls [])) : LW ad ad2 cI D p l e s m below meth c b S T (F0 m 659 ls []) := by
  obtain ⟨r, S1, T1, h8, h9, hR1⟩ := hok
  have h0 := lv_at hl 0 rfl
  have h3 := lv_at hl 3 rfl
  refine l_aload C dL_law_659 rfl (lv_at hl 1 rfl) ?_
  refine l_arg (a1 := 0) (a2 := 0) (a3 := 0) (a4 := 0) C j 1 hl h0 h3 (by omega) (show ((1 : Int32)) = nI 1 from rfl) (by decide) dL_law_660 dL_law_661 dL_law_662 dL_law_663 dL_law_664 ?_
  refine l_arg (a1 := 0) (a2 := 0) (a3 := 0) (a4 := 0) C j 2 hl h0 h3 (by omega) (show ((2 : Int32)) = nI 2 from rfl) (by decide) dL_law_665 dL_law_666 dL_law_667 dL_law_668 dL_law_669 ?_
  refine l_arg (a1 := 0) (a2 := 0) (a3 := 0) (a4 := 0) C j 3 hl h0 h3 (by omega) (show ((3 : Int32)) = nI 3 from rfl) (by decide) dL_law_670 dL_law_671 dL_law_672 dL_law_673 dL_law_674 ?_
  refine l_callc C 3 [.int (xs (j + 1)), .int (xs (j + 2)), .int (xs (j + 3))] (c_X8_meet (vD8 C) (xs (j + 1)) (xs (j + 2)) (xs (j + 3)) S) h8 wd_540 wd_541 wd_542 wd_1 wd_543 hy_X8_meet rfl (by decide) (by decide) hl.1 (Nat.le_of_ble_eq_true rfl) rfl dL_law_675 ?_
  refine l_aload C dL_law_678 rfl (lv_at hl 2 rfl) ?_
  refine l_arg (a1 := 0) (a2 := 0) (a3 := 0) (a4 := 0) C j 1 hl h0 h3 (by omega) (show ((1 : Int32)) = nI 1 from rfl) (by decide) dL_law_679 dL_law_680 dL_law_681 dL_law_682 dL_law_683 ?_
  refine l_arg (a1 := 0) (a2 := 0) (a3 := 0) (a4 := 0) C j 2 hl h0 h3 (by omega) (show ((2 : Int32)) = nI 2 from rfl) (by decide) dL_law_684 dL_law_685 dL_law_686 dL_law_687 dL_law_688 ?_
  refine l_arg (a1 := 0) (a2 := 0) (a3 := 0) (a4 := 0) C j 3 hl h0 h3 (by omega) (show ((3 : Int32)) = nI 3 from rfl) (by decide) dL_law_689 dL_law_690 dL_law_691 dL_law_692 dL_law_693 ?_
  refine l_callm C 3 [.int (xs (j + 1)), .int (xs (j + 2)), .int (xs (j + 3))] (c_X9_meet (vD9 C) (xs (j + 1)) (xs (j + 2)) (xs (j + 3)) T) h9 wd_1019 wd_1020 wd_1021 wd_10 wd_1022 hy_X9_meet rfl (by decide) (by decide) hl.1 (Nat.le_of_ble_eq_true rfl) rfl dL_law_694 ?_
  refine fun H locs hP hS => lv_icmp_eq (tgt := 1419) C.1.1 C.1.2.1 dL_law_697 (by decide) (fun hc => ?_) (fun hc => ?_)
  · exact next S1 T1 hR1 H locs hP hS
  · exact absurd rfl hc
theorem lc_fits {R : Sto → Sto → Prop} (C : CLw ad ad2 cI D tS p s m meth c b L xs) {j : Nat} (hok : Ok R (F_X8_fits (xs (j + 1)) (xs (j + 2)) (xs (j + 3)) (xs (j + 4)) (xs (j + 5)) (xs (j + 6)) S) (F_X9_fits (xs (j + 1)) (xs (j + 2)) (xs (j + 3)) (xs (j + 4)) (xs (j + 5)) (xs (j + 6)) T)) (hj : j + 7 ≤ L) (hl : lv_has ls 4 [(0, .ref b), (1, .ref (ad 0)), (2, .ref (ad2 0)), (3, .int (nI j))]) (next : ∀ S1 T1, R S1 T1 → LW ad ad2 cI D p l e s m below meth c b S1 T1 (F0 m 1419 ls [])) : LW ad ad2 cI D p l e s m below meth c b S T (F0 m 702 ls []) := by
  obtain ⟨r, S1, T1, h8, h9, hR1⟩ := hok
  have h0 := lv_at hl 0 rfl
  have h3 := lv_at hl 3 rfl
  refine l_aload C dL_law_702 rfl (lv_at hl 1 rfl) ?_
  refine l_arg (a1 := 0) (a2 := 0) (a3 := 0) (a4 := 0) C j 1 hl h0 h3 (by omega) (show ((1 : Int32)) = nI 1 from rfl) (by decide) dL_law_703 dL_law_704 dL_law_705 dL_law_706 dL_law_707 ?_
  refine l_arg (a1 := 0) (a2 := 0) (a3 := 0) (a4 := 0) C j 2 hl h0 h3 (by omega) (show ((2 : Int32)) = nI 2 from rfl) (by decide) dL_law_708 dL_law_709 dL_law_710 dL_law_711 dL_law_712 ?_
  refine l_arg (a1 := 0) (a2 := 0) (a3 := 0) (a4 := 0) C j 3 hl h0 h3 (by omega) (show ((3 : Int32)) = nI 3 from rfl) (by decide) dL_law_713 dL_law_714 dL_law_715 dL_law_716 dL_law_717 ?_
  refine l_arg (a1 := 0) (a2 := 0) (a3 := 0) (a4 := 0) C j 4 hl h0 h3 (by omega) (show ((4 : Int32)) = nI 4 from rfl) (by decide) dL_law_718 dL_law_719 dL_law_720 dL_law_721 dL_law_722 ?_
  refine l_arg (a1 := 0) (a2 := 0) (a3 := 0) (a4 := 0) C j 5 hl h0 h3 (by omega) (show ((5 : Int32)) = nI 5 from rfl) (by decide) dL_law_723 dL_law_724 dL_law_725 dL_law_726 dL_law_727 ?_
  refine l_argb C j 6 hl h0 h3 (by omega) (show ((6 : Int32)) = nI 6 from rfl) (by decide) dL_law_728 dL_law_729 dL_law_730 dL_law_732 dL_law_733 ?_
  refine l_callc C 6 [.int (xs (j + 1)), .int (xs (j + 2)), .int (xs (j + 3)), .int (xs (j + 4)), .int (xs (j + 5)), .int (xs (j + 6))] (c_X8_fits (vD8 C) (xs (j + 1)) (xs (j + 2)) (xs (j + 3)) (xs (j + 4)) (xs (j + 5)) (xs (j + 6)) S) h8 wd_548 wd_549 wd_550 wd_1 wd_551 hy_X8_fits rfl (by decide) (by decide) hl.1 (Nat.le_of_ble_eq_true rfl) rfl dL_law_734 ?_
  refine l_aload C dL_law_737 rfl (lv_at hl 2 rfl) ?_
  refine l_arg (a1 := 0) (a2 := 0) (a3 := 0) (a4 := 0) C j 1 hl h0 h3 (by omega) (show ((1 : Int32)) = nI 1 from rfl) (by decide) dL_law_738 dL_law_739 dL_law_740 dL_law_741 dL_law_742 ?_
  refine l_arg (a1 := 0) (a2 := 0) (a3 := 0) (a4 := 0) C j 2 hl h0 h3 (by omega) (show ((2 : Int32)) = nI 2 from rfl) (by decide) dL_law_743 dL_law_744 dL_law_745 dL_law_746 dL_law_747 ?_
  refine l_arg (a1 := 0) (a2 := 0) (a3 := 0) (a4 := 0) C j 3 hl h0 h3 (by omega) (show ((3 : Int32)) = nI 3 from rfl) (by decide) dL_law_748 dL_law_749 dL_law_750 dL_law_751 dL_law_752 ?_
  refine l_arg (a1 := 0) (a2 := 0) (a3 := 0) (a4 := 0) C j 4 hl h0 h3 (by omega) (show ((4 : Int32)) = nI 4 from rfl) (by decide) dL_law_753 dL_law_754 dL_law_755 dL_law_756 dL_law_757 ?_
  refine l_arg (a1 := 0) (a2 := 0) (a3 := 0) (a4 := 0) C j 5 hl h0 h3 (by omega) (show ((5 : Int32)) = nI 5 from rfl) (by decide) dL_law_758 dL_law_759 dL_law_760 dL_law_761 dL_law_762 ?_
  refine l_argb C j 6 hl h0 h3 (by omega) (show ((6 : Int32)) = nI 6 from rfl) (by decide) dL_law_763 dL_law_764 dL_law_765 dL_law_767 dL_law_768 ?_
  refine l_callm C 6 [.int (xs (j + 1)), .int (xs (j + 2)), .int (xs (j + 3)), .int (xs (j + 4)), .int (xs (j + 5)), .int (xs (j + 6))] (c_X9_fits (vD9 C) (xs (j + 1)) (xs (j + 2)) (xs (j + 3)) (xs (j + 4)) (xs (j + 5)) (xs (j + 6)) T) h9 wd_1023 wd_1024 wd_1025 wd_10 wd_1026 hy_X9_fits rfl (by decide) (by decide) hl.1 (Nat.le_of_ble_eq_true rfl) rfl dL_law_769 ?_
  refine fun H locs hP hS => lv_icmp_eq (tgt := 1419) C.1.1 C.1.2.1 dL_law_772 (by decide) (fun hc => ?_) (fun hc => ?_)
  · exact next S1 T1 hR1 H locs hP hS
  · exact absurd rfl hc
theorem lc_joins {R : Sto → Sto → Prop} (C : CLw ad ad2 cI D tS p s m meth c b L xs) {j : Nat} (hok : Ok R (F_X8_joins (xs (j + 1)) (xs (j + 2)) (xs (j + 3)) (xs (j + 4)) (xs (j + 5)) S) (F_X9_joins (xs (j + 1)) (xs (j + 2)) (xs (j + 3)) (xs (j + 4)) (xs (j + 5)) T)) (hj : j + 7 ≤ L) (hl : lv_has ls 4 [(0, .ref b), (1, .ref (ad 0)), (2, .ref (ad2 0)), (3, .int (nI j))]) (next : ∀ S1 T1, R S1 T1 → LW ad ad2 cI D p l e s m below meth c b S1 T1 (F0 m 1419 ls [])) : LW ad ad2 cI D p l e s m below meth c b S T (F0 m 777 ls []) := by
  obtain ⟨r, S1, T1, h8, h9, hR1⟩ := hok
  have h0 := lv_at hl 0 rfl
  have h3 := lv_at hl 3 rfl
  refine l_aload C dL_law_777 rfl (lv_at hl 1 rfl) ?_
  refine l_arg (a1 := 0) (a2 := 0) (a3 := 0) (a4 := 0) C j 1 hl h0 h3 (by omega) (show ((1 : Int32)) = nI 1 from rfl) (by decide) dL_law_778 dL_law_779 dL_law_780 dL_law_781 dL_law_782 ?_
  refine l_arg (a1 := 0) (a2 := 0) (a3 := 0) (a4 := 0) C j 2 hl h0 h3 (by omega) (show ((2 : Int32)) = nI 2 from rfl) (by decide) dL_law_783 dL_law_784 dL_law_785 dL_law_786 dL_law_787 ?_
  refine l_arg (a1 := 0) (a2 := 0) (a3 := 0) (a4 := 0) C j 3 hl h0 h3 (by omega) (show ((3 : Int32)) = nI 3 from rfl) (by decide) dL_law_788 dL_law_789 dL_law_790 dL_law_791 dL_law_792 ?_
  refine l_arg (a1 := 0) (a2 := 0) (a3 := 0) (a4 := 0) C j 4 hl h0 h3 (by omega) (show ((4 : Int32)) = nI 4 from rfl) (by decide) dL_law_793 dL_law_794 dL_law_795 dL_law_796 dL_law_797 ?_
  refine l_arg (a1 := 0) (a2 := 0) (a3 := 0) (a4 := 0) C j 5 hl h0 h3 (by omega) (show ((5 : Int32)) = nI 5 from rfl) (by decide) dL_law_798 dL_law_799 dL_law_800 dL_law_801 dL_law_802 ?_
  refine l_callc C 5 [.int (xs (j + 1)), .int (xs (j + 2)), .int (xs (j + 3)), .int (xs (j + 4)), .int (xs (j + 5))] (c_X8_joins (vD8 C) (xs (j + 1)) (xs (j + 2)) (xs (j + 3)) (xs (j + 4)) (xs (j + 5)) S) h8 wd_573 wd_574 wd_575 wd_1 wd_576 hy_X8_joins rfl (by decide) (by decide) hl.1 (Nat.le_of_ble_eq_true rfl) rfl dL_law_803 ?_
  refine l_aload C dL_law_806 rfl (lv_at hl 2 rfl) ?_
  refine l_arg (a1 := 0) (a2 := 0) (a3 := 0) (a4 := 0) C j 1 hl h0 h3 (by omega) (show ((1 : Int32)) = nI 1 from rfl) (by decide) dL_law_807 dL_law_808 dL_law_809 dL_law_810 dL_law_811 ?_
  refine l_arg (a1 := 0) (a2 := 0) (a3 := 0) (a4 := 0) C j 2 hl h0 h3 (by omega) (show ((2 : Int32)) = nI 2 from rfl) (by decide) dL_law_812 dL_law_813 dL_law_814 dL_law_815 dL_law_816 ?_
  refine l_arg (a1 := 0) (a2 := 0) (a3 := 0) (a4 := 0) C j 3 hl h0 h3 (by omega) (show ((3 : Int32)) = nI 3 from rfl) (by decide) dL_law_817 dL_law_818 dL_law_819 dL_law_820 dL_law_821 ?_
  refine l_arg (a1 := 0) (a2 := 0) (a3 := 0) (a4 := 0) C j 4 hl h0 h3 (by omega) (show ((4 : Int32)) = nI 4 from rfl) (by decide) dL_law_822 dL_law_823 dL_law_824 dL_law_825 dL_law_826 ?_
  refine l_arg (a1 := 0) (a2 := 0) (a3 := 0) (a4 := 0) C j 5 hl h0 h3 (by omega) (show ((5 : Int32)) = nI 5 from rfl) (by decide) dL_law_827 dL_law_828 dL_law_829 dL_law_830 dL_law_831 ?_
  refine l_callm C 5 [.int (xs (j + 1)), .int (xs (j + 2)), .int (xs (j + 3)), .int (xs (j + 4)), .int (xs (j + 5))] (c_X9_joins (vD9 C) (xs (j + 1)) (xs (j + 2)) (xs (j + 3)) (xs (j + 4)) (xs (j + 5)) T) h9 wd_1039 wd_1040 wd_1041 wd_10 wd_1042 hy_X9_joins rfl (by decide) (by decide) hl.1 (Nat.le_of_ble_eq_true rfl) rfl dL_law_832 ?_
  refine fun H locs hP hS => lv_icmp_eq (tgt := 1419) C.1.1 C.1.2.1 dL_law_835 (by decide) (fun hc => ?_) (fun hc => ?_)
  · exact next S1 T1 hR1 H locs hP hS
  · exact absurd rfl hc
theorem lc_loud {R : Sto → Sto → Prop} (C : CLw ad ad2 cI D tS p s m meth c b L xs) {j : Nat} (hok : Ok R (F_X8_loud (xs (j + 1)) (xs (j + 2)) S) (F_X9_loud (xs (j + 1)) (xs (j + 2)) T)) (hj : j + 7 ≤ L) (hl : lv_has ls 4 [(0, .ref b), (1, .ref (ad 0)), (2, .ref (ad2 0)), (3, .int (nI j))]) (next : ∀ S1 T1, R S1 T1 → LW ad ad2 cI D p l e s m below meth c b S1 T1 (F0 m 1419 ls [])) : LW ad ad2 cI D p l e s m below meth c b S T (F0 m 840 ls []) := by
  obtain ⟨r, S1, T1, h8, h9, hR1⟩ := hok
  have h0 := lv_at hl 0 rfl
  have h3 := lv_at hl 3 rfl
  refine l_aload C dL_law_840 rfl (lv_at hl 1 rfl) ?_
  refine l_arg (a1 := 0) (a2 := 0) (a3 := 0) (a4 := 0) C j 1 hl h0 h3 (by omega) (show ((1 : Int32)) = nI 1 from rfl) (by decide) dL_law_841 dL_law_842 dL_law_843 dL_law_844 dL_law_845 ?_
  refine l_arg (a1 := 0) (a2 := 0) (a3 := 0) (a4 := 0) C j 2 hl h0 h3 (by omega) (show ((2 : Int32)) = nI 2 from rfl) (by decide) dL_law_846 dL_law_847 dL_law_848 dL_law_849 dL_law_850 ?_
  refine l_callc C 2 [.int (xs (j + 1)), .int (xs (j + 2))] (c_X8_loud (vD8 C) (xs (j + 1)) (xs (j + 2)) S) h8 wd_596 wd_597 wd_598 wd_1 wd_599 hy_X8_loud rfl (by decide) (by decide) hl.1 (Nat.le_of_ble_eq_true rfl) rfl dL_law_851 ?_
  refine l_aload C dL_law_854 rfl (lv_at hl 2 rfl) ?_
  refine l_arg (a1 := 0) (a2 := 0) (a3 := 0) (a4 := 0) C j 1 hl h0 h3 (by omega) (show ((1 : Int32)) = nI 1 from rfl) (by decide) dL_law_855 dL_law_856 dL_law_857 dL_law_858 dL_law_859 ?_
  refine l_arg (a1 := 0) (a2 := 0) (a3 := 0) (a4 := 0) C j 2 hl h0 h3 (by omega) (show ((2 : Int32)) = nI 2 from rfl) (by decide) dL_law_860 dL_law_861 dL_law_862 dL_law_863 dL_law_864 ?_
  refine l_callm C 2 [.int (xs (j + 1)), .int (xs (j + 2))] (c_X9_loud (vD9 C) (xs (j + 1)) (xs (j + 2)) T) h9 wd_1055 wd_1056 wd_1057 wd_10 wd_1058 hy_X9_loud rfl (by decide) (by decide) hl.1 (Nat.le_of_ble_eq_true rfl) rfl dL_law_865 ?_
  refine fun H locs hP hS => lv_icmp_eq (tgt := 1419) C.1.1 C.1.2.1 dL_law_868 (by decide) (fun hc => ?_) (fun hc => ?_)
  · exact next S1 T1 hR1 H locs hP hS
  · exact absurd rfl hc
theorem lc_part {R : Sto → Sto → Prop} (C : CLw ad ad2 cI D tS p s m meth c b L xs) {j : Nat} (hok : Ok R (F_X8_part  S) (F_X9_part  T)) (hj : j + 7 ≤ L) (hl : lv_has ls 4 [(0, .ref b), (1, .ref (ad 0)), (2, .ref (ad2 0)), (3, .int (nI j))]) (next : ∀ S1 T1, R S1 T1 → LW ad ad2 cI D p l e s m below meth c b S1 T1 (F0 m 1419 ls [])) : LW ad ad2 cI D p l e s m below meth c b S T (F0 m 873 ls []) := by
  obtain ⟨r, S1, T1, h8, h9, hR1⟩ := hok
  have h0 := lv_at hl 0 rfl
  have h3 := lv_at hl 3 rfl
  refine l_aload C dL_law_873 rfl (lv_at hl 1 rfl) ?_
  refine l_callc C 0 [] (c_X8_part (vD8 C)  S) h8 wd_600 wd_601 wd_602 wd_1 wd_603 hy_X8_part rfl (by decide) (by decide) hl.1 (Nat.le_of_ble_eq_true rfl) rfl dL_law_874 ?_
  refine l_aload C dL_law_877 rfl (lv_at hl 2 rfl) ?_
  refine l_callm C 0 [] (c_X9_part (vD9 C)  T) h9 wd_1059 wd_1060 wd_1061 wd_10 wd_1062 hy_X9_part rfl (by decide) (by decide) hl.1 (Nat.le_of_ble_eq_true rfl) rfl dL_law_878 ?_
  refine fun H locs hP hS => lv_icmp_eq (tgt := 1419) C.1.1 C.1.2.1 dL_law_881 (by decide) (fun hc => ?_) (fun hc => ?_)
  · exact next S1 T1 hR1 H locs hP hS
  · exact absurd rfl hc
theorem lc_reading {R : Sto → Sto → Prop} (C : CLw ad ad2 cI D tS p s m meth c b L xs) {j : Nat} (hok : Ok R (F_X8_reading (xs (j + 1)) (xs (j + 2)) (xs (j + 3)) (xs (j + 4)) S) (F_X9_reading (xs (j + 1)) (xs (j + 2)) (xs (j + 3)) (xs (j + 4)) T)) (hj : j + 7 ≤ L) (hl : lv_has ls 4 [(0, .ref b), (1, .ref (ad 0)), (2, .ref (ad2 0)), (3, .int (nI j))]) (next : ∀ S1 T1, R S1 T1 → LW ad ad2 cI D p l e s m below meth c b S1 T1 (F0 m 1419 ls [])) : LW ad ad2 cI D p l e s m below meth c b S T (F0 m 886 ls []) := by
  obtain ⟨r, S1, T1, h8, h9, hR1⟩ := hok
  have h0 := lv_at hl 0 rfl
  have h3 := lv_at hl 3 rfl
  refine l_aload C dL_law_886 rfl (lv_at hl 1 rfl) ?_
  refine l_arg (a1 := 0) (a2 := 0) (a3 := 0) (a4 := 0) C j 1 hl h0 h3 (by omega) (show ((1 : Int32)) = nI 1 from rfl) (by decide) dL_law_887 dL_law_888 dL_law_889 dL_law_890 dL_law_891 ?_
  refine l_arg (a1 := 0) (a2 := 0) (a3 := 0) (a4 := 0) C j 2 hl h0 h3 (by omega) (show ((2 : Int32)) = nI 2 from rfl) (by decide) dL_law_892 dL_law_893 dL_law_894 dL_law_895 dL_law_896 ?_
  refine l_arg (a1 := 0) (a2 := 0) (a3 := 0) (a4 := 0) C j 3 hl h0 h3 (by omega) (show ((3 : Int32)) = nI 3 from rfl) (by decide) dL_law_897 dL_law_898 dL_law_899 dL_law_900 dL_law_901 ?_
  refine l_arg (a1 := 0) (a2 := 0) (a3 := 0) (a4 := 0) C j 4 hl h0 h3 (by omega) (show ((4 : Int32)) = nI 4 from rfl) (by decide) dL_law_902 dL_law_903 dL_law_904 dL_law_905 dL_law_906 ?_
  refine l_callc C 4 [.int (xs (j + 1)), .int (xs (j + 2)), .int (xs (j + 3)), .int (xs (j + 4))] (c_X8_reading (vD8 C) (xs (j + 1)) (xs (j + 2)) (xs (j + 3)) (xs (j + 4)) S) h8 wd_608 wd_609 wd_610 wd_1 wd_611 hy_X8_reading rfl (by decide) (by decide) hl.1 (Nat.le_of_ble_eq_true rfl) rfl dL_law_907 ?_
  refine l_aload C dL_law_910 rfl (lv_at hl 2 rfl) ?_
  refine l_arg (a1 := 0) (a2 := 0) (a3 := 0) (a4 := 0) C j 1 hl h0 h3 (by omega) (show ((1 : Int32)) = nI 1 from rfl) (by decide) dL_law_911 dL_law_912 dL_law_913 dL_law_914 dL_law_915 ?_
  refine l_arg (a1 := 0) (a2 := 0) (a3 := 0) (a4 := 0) C j 2 hl h0 h3 (by omega) (show ((2 : Int32)) = nI 2 from rfl) (by decide) dL_law_916 dL_law_917 dL_law_918 dL_law_919 dL_law_920 ?_
  refine l_arg (a1 := 0) (a2 := 0) (a3 := 0) (a4 := 0) C j 3 hl h0 h3 (by omega) (show ((3 : Int32)) = nI 3 from rfl) (by decide) dL_law_921 dL_law_922 dL_law_923 dL_law_924 dL_law_925 ?_
  refine l_arg (a1 := 0) (a2 := 0) (a3 := 0) (a4 := 0) C j 4 hl h0 h3 (by omega) (show ((4 : Int32)) = nI 4 from rfl) (by decide) dL_law_926 dL_law_927 dL_law_928 dL_law_929 dL_law_930 ?_
  refine l_callm C 4 [.int (xs (j + 1)), .int (xs (j + 2)), .int (xs (j + 3)), .int (xs (j + 4))] (c_X9_reading (vD9 C) (xs (j + 1)) (xs (j + 2)) (xs (j + 3)) (xs (j + 4)) T) h9 wd_1067 wd_1068 wd_1069 wd_10 wd_1070 hy_X9_reading rfl (by decide) (by decide) hl.1 (Nat.le_of_ble_eq_true rfl) rfl dL_law_931 ?_
  refine fun H locs hP hS => lv_icmp_eq (tgt := 1419) C.1.1 C.1.2.1 dL_law_934 (by decide) (fun hc => ?_) (fun hc => ?_)
  · exact next S1 T1 hR1 H locs hP hS
  · exact absurd rfl hc
theorem lc_back {R : Sto → Sto → Prop} (C : CLw ad ad2 cI D tS p s m meth c b L xs) {j : Nat} (hok : Ok R (F_X8_back (xs (j + 1)) S) (F_X9_back (xs (j + 1)) T)) (hj : j + 7 ≤ L) (hl : lv_has ls 4 [(0, .ref b), (1, .ref (ad 0)), (2, .ref (ad2 0)), (3, .int (nI j))]) (next : ∀ S1 T1, R S1 T1 → LW ad ad2 cI D p l e s m below meth c b S1 T1 (F0 m 1419 ls [])) : LW ad ad2 cI D p l e s m below meth c b S T (F0 m 939 ls []) := by
  obtain ⟨r, S1, T1, h8, h9, hR1⟩ := hok
  have h0 := lv_at hl 0 rfl
  have h3 := lv_at hl 3 rfl
  refine l_aload C dL_law_939 rfl (lv_at hl 1 rfl) ?_
  refine l_arg (a1 := 0) (a2 := 0) (a3 := 0) (a4 := 0) C j 1 hl h0 h3 (by omega) (show ((1 : Int32)) = nI 1 from rfl) (by decide) dL_law_940 dL_law_941 dL_law_942 dL_law_943 dL_law_944 ?_
  refine l_callc C 1 [.int (xs (j + 1))] (c_X8_back (vD8 C) (xs (j + 1)) S) h8 wd_621 wd_622 wd_623 wd_1 wd_624 hy_X8_back rfl (by decide) (by decide) hl.1 (Nat.le_of_ble_eq_true rfl) rfl dL_law_945 ?_
  refine l_aload C dL_law_948 rfl (lv_at hl 2 rfl) ?_
  refine l_arg (a1 := 0) (a2 := 0) (a3 := 0) (a4 := 0) C j 1 hl h0 h3 (by omega) (show ((1 : Int32)) = nI 1 from rfl) (by decide) dL_law_949 dL_law_950 dL_law_951 dL_law_952 dL_law_953 ?_
  refine l_callm C 1 [.int (xs (j + 1))] (c_X9_back (vD9 C) (xs (j + 1)) T) h9 wd_1071 wd_1072 wd_1073 wd_10 wd_1074 hy_X9_back rfl (by decide) (by decide) hl.1 (Nat.le_of_ble_eq_true rfl) rfl dL_law_954 ?_
  refine fun H locs hP hS => lv_icmp_eq (tgt := 1419) C.1.1 C.1.2.1 dL_law_957 (by decide) (fun hc => ?_) (fun hc => ?_)
  · exact next S1 T1 hR1 H locs hP hS
  · exact absurd rfl hc
theorem lc_weights {R : Sto → Sto → Prop} (C : CLw ad ad2 cI D tS p s m meth c b L xs) {j : Nat} (hok : Ok R (F_X8_weights (xs (j + 1)) S) (F_X9_weights (xs (j + 1)) T)) (hj : j + 7 ≤ L) (hl : lv_has ls 4 [(0, .ref b), (1, .ref (ad 0)), (2, .ref (ad2 0)), (3, .int (nI j))]) (next : ∀ S1 T1, R S1 T1 → LW ad ad2 cI D p l e s m below meth c b S1 T1 (F0 m 1419 ls [])) : LW ad ad2 cI D p l e s m below meth c b S T (F0 m 962 ls []) := by
  obtain ⟨r, S1, T1, h8, h9, hR1⟩ := hok
  have h0 := lv_at hl 0 rfl
  have h3 := lv_at hl 3 rfl
  refine l_aload C dL_law_962 rfl (lv_at hl 1 rfl) ?_
  refine l_arg (a1 := 0) (a2 := 0) (a3 := 0) (a4 := 0) C j 1 hl h0 h3 (by omega) (show ((1 : Int32)) = nI 1 from rfl) (by decide) dL_law_963 dL_law_964 dL_law_965 dL_law_966 dL_law_967 ?_
  refine l_callc C 1 [.int (xs (j + 1))] (c_X8_weights (vD8 C) (xs (j + 1)) S) h8 wd_625 wd_626 wd_627 wd_1 wd_628 hy_X8_weights rfl (by decide) (by decide) hl.1 (Nat.le_of_ble_eq_true rfl) rfl dL_law_968 ?_
  refine l_aload C dL_law_971 rfl (lv_at hl 2 rfl) ?_
  refine l_arg (a1 := 0) (a2 := 0) (a3 := 0) (a4 := 0) C j 1 hl h0 h3 (by omega) (show ((1 : Int32)) = nI 1 from rfl) (by decide) dL_law_972 dL_law_973 dL_law_974 dL_law_975 dL_law_976 ?_
  refine l_callm C 1 [.int (xs (j + 1))] (c_X9_weights (vD9 C) (xs (j + 1)) T) h9 wd_1075 wd_1076 wd_1077 wd_10 wd_1078 hy_X9_weights rfl (by decide) (by decide) hl.1 (Nat.le_of_ble_eq_true rfl) rfl dL_law_977 ?_
  refine fun H locs hP hS => lv_icmp_eq (tgt := 1419) C.1.1 C.1.2.1 dL_law_980 (by decide) (fun hc => ?_) (fun hc => ?_)
  · exact next S1 T1 hR1 H locs hP hS
  · exact absurd rfl hc
theorem lc_kinds {R : Sto → Sto → Prop} (C : CLw ad ad2 cI D tS p s m meth c b L xs) {j : Nat} (hok : Ok R (F_X8_kinds (xs (j + 1)) S) (F_X9_kinds (xs (j + 1)) T)) (hj : j + 7 ≤ L) (hl : lv_has ls 4 [(0, .ref b), (1, .ref (ad 0)), (2, .ref (ad2 0)), (3, .int (nI j))]) (next : ∀ S1 T1, R S1 T1 → LW ad ad2 cI D p l e s m below meth c b S1 T1 (F0 m 1419 ls [])) : LW ad ad2 cI D p l e s m below meth c b S T (F0 m 985 ls []) := by
  obtain ⟨r, S1, T1, h8, h9, hR1⟩ := hok
  have h0 := lv_at hl 0 rfl
  have h3 := lv_at hl 3 rfl
  refine l_aload C dL_law_985 rfl (lv_at hl 1 rfl) ?_
  refine l_arg (a1 := 0) (a2 := 0) (a3 := 0) (a4 := 0) C j 1 hl h0 h3 (by omega) (show ((1 : Int32)) = nI 1 from rfl) (by decide) dL_law_986 dL_law_987 dL_law_988 dL_law_989 dL_law_990 ?_
  refine l_callc C 1 [.int (xs (j + 1))] (c_X8_kinds (vD8 C) (xs (j + 1)) S) h8 wd_639 wd_640 wd_641 wd_1 wd_642 hy_X8_kinds rfl (by decide) (by decide) hl.1 (Nat.le_of_ble_eq_true rfl) rfl dL_law_991 ?_
  refine l_aload C dL_law_994 rfl (lv_at hl 2 rfl) ?_
  refine l_arg (a1 := 0) (a2 := 0) (a3 := 0) (a4 := 0) C j 1 hl h0 h3 (by omega) (show ((1 : Int32)) = nI 1 from rfl) (by decide) dL_law_995 dL_law_996 dL_law_997 dL_law_998 dL_law_999 ?_
  refine l_callm C 1 [.int (xs (j + 1))] (c_X9_kinds (vD9 C) (xs (j + 1)) T) h9 wd_1083 wd_1084 wd_1085 wd_10 wd_1086 hy_X9_kinds rfl (by decide) (by decide) hl.1 (Nat.le_of_ble_eq_true rfl) rfl dL_law_1000 ?_
  refine fun H locs hP hS => lv_icmp_eq (tgt := 1419) C.1.1 C.1.2.1 dL_law_1003 (by decide) (fun hc => ?_) (fun hc => ?_)
  · exact next S1 T1 hR1 H locs hP hS
  · exact absurd rfl hc
theorem lc_creaks {R : Sto → Sto → Prop} (C : CLw ad ad2 cI D tS p s m meth c b L xs) {j : Nat} (hok : Ok R (F_X8_creaks (xs (j + 1)) S) (F_X9_creaks (xs (j + 1)) T)) (hj : j + 7 ≤ L) (hl : lv_has ls 4 [(0, .ref b), (1, .ref (ad 0)), (2, .ref (ad2 0)), (3, .int (nI j))]) (next : ∀ S1 T1, R S1 T1 → LW ad ad2 cI D p l e s m below meth c b S1 T1 (F0 m 1419 ls [])) : LW ad ad2 cI D p l e s m below meth c b S T (F0 m 1008 ls []) := by
  obtain ⟨r, S1, T1, h8, h9, hR1⟩ := hok
  have h0 := lv_at hl 0 rfl
  have h3 := lv_at hl 3 rfl
  refine l_aload C dL_law_1008 rfl (lv_at hl 1 rfl) ?_
  refine l_arg (a1 := 0) (a2 := 0) (a3 := 0) (a4 := 0) C j 1 hl h0 h3 (by omega) (show ((1 : Int32)) = nI 1 from rfl) (by decide) dL_law_1009 dL_law_1010 dL_law_1011 dL_law_1012 dL_law_1013 ?_
  refine l_callc C 1 [.int (xs (j + 1))] (c_X8_creaks (vD8 C) (xs (j + 1)) S) h8 wd_643 wd_644 wd_645 wd_1 wd_646 hy_X8_creaks rfl (by decide) (by decide) hl.1 (Nat.le_of_ble_eq_true rfl) rfl dL_law_1014 ?_
  refine l_aload C dL_law_1017 rfl (lv_at hl 2 rfl) ?_
  refine l_arg (a1 := 0) (a2 := 0) (a3 := 0) (a4 := 0) C j 1 hl h0 h3 (by omega) (show ((1 : Int32)) = nI 1 from rfl) (by decide) dL_law_1018 dL_law_1019 dL_law_1020 dL_law_1021 dL_law_1022 ?_
  refine l_callm C 1 [.int (xs (j + 1))] (c_X9_creaks (vD9 C) (xs (j + 1)) T) h9 wd_1087 wd_1088 wd_1089 wd_10 wd_1090 hy_X9_creaks rfl (by decide) (by decide) hl.1 (Nat.le_of_ble_eq_true rfl) rfl dL_law_1023 ?_
  refine fun H locs hP hS => lv_icmp_eq (tgt := 1419) C.1.1 C.1.2.1 dL_law_1026 (by decide) (fun hc => ?_) (fun hc => ?_)
  · exact next S1 T1 hR1 H locs hP hS
  · exact absurd rfl hc
theorem lc_odds {R : Sto → Sto → Prop} (C : CLw ad ad2 cI D tS p s m meth c b L xs) {j : Nat} (hok : Ok R (F_X8_odds (xs (j + 1)) (xs (j + 2)) (xs (j + 3)) S) (F_X9_odds (xs (j + 1)) (xs (j + 2)) (xs (j + 3)) T)) (hj : j + 7 ≤ L) (hl : lv_has ls 4 [(0, .ref b), (1, .ref (ad 0)), (2, .ref (ad2 0)), (3, .int (nI j))]) (next : ∀ S1 T1, R S1 T1 → LW ad ad2 cI D p l e s m below meth c b S1 T1 (F0 m 1419 ls [])) : LW ad ad2 cI D p l e s m below meth c b S T (F0 m 1031 ls []) := by
  obtain ⟨r, S1, T1, h8, h9, hR1⟩ := hok
  have h0 := lv_at hl 0 rfl
  have h3 := lv_at hl 3 rfl
  refine l_aload C dL_law_1031 rfl (lv_at hl 1 rfl) ?_
  refine l_arg (a1 := 0) (a2 := 0) (a3 := 0) (a4 := 0) C j 1 hl h0 h3 (by omega) (show ((1 : Int32)) = nI 1 from rfl) (by decide) dL_law_1032 dL_law_1033 dL_law_1034 dL_law_1035 dL_law_1036 ?_
  refine l_arg (a1 := 0) (a2 := 0) (a3 := 0) (a4 := 0) C j 2 hl h0 h3 (by omega) (show ((2 : Int32)) = nI 2 from rfl) (by decide) dL_law_1037 dL_law_1038 dL_law_1039 dL_law_1040 dL_law_1041 ?_
  refine l_arg (a1 := 0) (a2 := 0) (a3 := 0) (a4 := 0) C j 3 hl h0 h3 (by omega) (show ((3 : Int32)) = nI 3 from rfl) (by decide) dL_law_1042 dL_law_1043 dL_law_1044 dL_law_1045 dL_law_1046 ?_
  refine l_calllc C 3 [.int (xs (j + 1)), .int (xs (j + 2)), .int (xs (j + 3))] (c_X8_odds (vD8 C) (xs (j + 1)) (xs (j + 2)) (xs (j + 3)) S) h8 wd_647 wd_648 wd_649 wd_1 wd_650 hy_X8_odds rfl (by decide) (by decide) hl.1 (Nat.le_of_ble_eq_true rfl) rfl dL_law_1047 ?_
  refine l_aload C dL_law_1050 rfl (lv_at hl 2 rfl) ?_
  refine l_arg (a1 := 0) (a2 := 0) (a3 := 0) (a4 := 0) C j 1 hl h0 h3 (by omega) (show ((1 : Int32)) = nI 1 from rfl) (by decide) dL_law_1051 dL_law_1052 dL_law_1053 dL_law_1054 dL_law_1055 ?_
  refine l_arg (a1 := 0) (a2 := 0) (a3 := 0) (a4 := 0) C j 2 hl h0 h3 (by omega) (show ((2 : Int32)) = nI 2 from rfl) (by decide) dL_law_1056 dL_law_1057 dL_law_1058 dL_law_1059 dL_law_1060 ?_
  refine l_arg (a1 := 0) (a2 := 0) (a3 := 0) (a4 := 0) C j 3 hl h0 h3 (by omega) (show ((3 : Int32)) = nI 3 from rfl) (by decide) dL_law_1061 dL_law_1062 dL_law_1063 dL_law_1064 dL_law_1065 ?_
  refine l_calllm C 3 [.int (xs (j + 1)), .int (xs (j + 2)), .int (xs (j + 3))] (c_X9_odds (vD9 C) (xs (j + 1)) (xs (j + 2)) (xs (j + 3)) T) h9 wd_1091 wd_1092 wd_1093 wd_10 wd_1094 hy_X9_odds rfl (by decide) (by decide) hl.1 (Nat.le_of_ble_eq_true rfl) rfl dL_law_1066 ?_
  refine LW.lift (fun _ _ _ k => W.lcmp C.1.1 C.1.2.1 dL_law_1069 k) ?_
  have e0 : lg_cmp r r = 0 := by simp [lg_cmp]
  rw [e0]
  refine fun H locs hP hS => lv_if_eq (tgt := 1419) C.1.1 C.1.2.1 dL_law_1070 (by decide) (fun hc => ?_) (fun hc => ?_)
  · exact next S1 T1 hR1 H locs hP hS
  · exact absurd rfl hc
theorem lc_sheet {R : Sto → Sto → Prop} (C : CLw ad ad2 cI D tS p s m meth c b L xs) {j : Nat} (hok : Ok R (F_X8_sheet (xs (j + 1)) (xs (j + 2)) (xs (j + 3)) S) (F_X9_sheet (xs (j + 1)) (xs (j + 2)) (xs (j + 3)) T)) (hj : j + 7 ≤ L) (hl : lv_has ls 4 [(0, .ref b), (1, .ref (ad 0)), (2, .ref (ad2 0)), (3, .int (nI j))]) (next : ∀ S1 T1, R S1 T1 → LW ad ad2 cI D p l e s m below meth c b S1 T1 (F0 m 1419 ls [])) : LW ad ad2 cI D p l e s m below meth c b S T (F0 m 1075 ls []) := by
  obtain ⟨r, S1, T1, h8, h9, hR1⟩ := hok
  have h0 := lv_at hl 0 rfl
  have h3 := lv_at hl 3 rfl
  refine l_aload C dL_law_1075 rfl (lv_at hl 1 rfl) ?_
  refine l_arg (a1 := 0) (a2 := 0) (a3 := 0) (a4 := 0) C j 1 hl h0 h3 (by omega) (show ((1 : Int32)) = nI 1 from rfl) (by decide) dL_law_1076 dL_law_1077 dL_law_1078 dL_law_1079 dL_law_1080 ?_
  refine l_arg (a1 := 0) (a2 := 0) (a3 := 0) (a4 := 0) C j 2 hl h0 h3 (by omega) (show ((2 : Int32)) = nI 2 from rfl) (by decide) dL_law_1081 dL_law_1082 dL_law_1083 dL_law_1084 dL_law_1085 ?_
  refine l_arg (a1 := 0) (a2 := 0) (a3 := 0) (a4 := 0) C j 3 hl h0 h3 (by omega) (show ((3 : Int32)) = nI 3 from rfl) (by decide) dL_law_1086 dL_law_1087 dL_law_1088 dL_law_1089 dL_law_1090 ?_
  refine l_callc C 3 [.int (xs (j + 1)), .int (xs (j + 2)), .int (xs (j + 3))] (c_X8_sheet (vD8 C) (xs (j + 1)) (xs (j + 2)) (xs (j + 3)) S) h8 wd_659 wd_660 wd_661 wd_1 wd_662 hy_X8_sheet rfl (by decide) (by decide) hl.1 (Nat.le_of_ble_eq_true rfl) rfl dL_law_1091 ?_
  refine l_aload C dL_law_1094 rfl (lv_at hl 2 rfl) ?_
  refine l_arg (a1 := 0) (a2 := 0) (a3 := 0) (a4 := 0) C j 1 hl h0 h3 (by omega) (show ((1 : Int32)) = nI 1 from rfl) (by decide) dL_law_1095 dL_law_1096 dL_law_1097 dL_law_1098 dL_law_1099 ?_
  refine l_arg (a1 := 0) (a2 := 0) (a3 := 0) (a4 := 0) C j 2 hl h0 h3 (by omega) (show ((2 : Int32)) = nI 2 from rfl) (by decide) dL_law_1100 dL_law_1101 dL_law_1102 dL_law_1103 dL_law_1104 ?_
  refine l_arg (a1 := 0) (a2 := 0) (a3 := 0) (a4 := 0) C j 3 hl h0 h3 (by omega) (show ((3 : Int32)) = nI 3 from rfl) (by decide) dL_law_1105 dL_law_1106 dL_law_1107 dL_law_1108 dL_law_1109 ?_
  refine l_callm C 3 [.int (xs (j + 1)), .int (xs (j + 2)), .int (xs (j + 3))] (c_X9_sheet (vD9 C) (xs (j + 1)) (xs (j + 2)) (xs (j + 3)) T) h9 wd_1103 wd_1104 wd_1105 wd_10 wd_1106 hy_X9_sheet rfl (by decide) (by decide) hl.1 (Nat.le_of_ble_eq_true rfl) rfl dL_law_1110 ?_
  refine fun H locs hP hS => lv_icmp_eq (tgt := 1419) C.1.1 C.1.2.1 dL_law_1113 (by decide) (fun hc => ?_) (fun hc => ?_)
  · exact next S1 T1 hR1 H locs hP hS
  · exact absurd rfl hc
theorem lc_lose {R : Sto → Sto → Prop} (C : CLw ad ad2 cI D tS p s m meth c b L xs) {j : Nat} (hok : Ok R (F_X8_lose (xs (j + 1)) S) (F_X9_lose (xs (j + 1)) T)) (hj : j + 7 ≤ L) (hl : lv_has ls 4 [(0, .ref b), (1, .ref (ad 0)), (2, .ref (ad2 0)), (3, .int (nI j))]) (next : ∀ S1 T1, R S1 T1 → LW ad ad2 cI D p l e s m below meth c b S1 T1 (F0 m 1419 ls [])) : LW ad ad2 cI D p l e s m below meth c b S T (F0 m 1118 ls []) := by
  obtain ⟨r, S1, T1, h8, h9, hR1⟩ := hok
  have h0 := lv_at hl 0 rfl
  have h3 := lv_at hl 3 rfl
  refine l_aload C dL_law_1118 rfl (lv_at hl 1 rfl) ?_
  refine l_arg (a1 := 0) (a2 := 0) (a3 := 0) (a4 := 0) C j 1 hl h0 h3 (by omega) (show ((1 : Int32)) = nI 1 from rfl) (by decide) dL_law_1119 dL_law_1120 dL_law_1121 dL_law_1122 dL_law_1123 ?_
  refine l_callc C 1 [.int (xs (j + 1))] (c_X8_lose (vD8 C) (xs (j + 1)) S) h8 wd_667 wd_668 wd_669 wd_1 wd_670 hy_X8_lose rfl (by decide) (by decide) hl.1 (Nat.le_of_ble_eq_true rfl) rfl dL_law_1124 ?_
  refine l_aload C dL_law_1127 rfl (lv_at hl 2 rfl) ?_
  refine l_arg (a1 := 0) (a2 := 0) (a3 := 0) (a4 := 0) C j 1 hl h0 h3 (by omega) (show ((1 : Int32)) = nI 1 from rfl) (by decide) dL_law_1128 dL_law_1129 dL_law_1130 dL_law_1131 dL_law_1132 ?_
  refine l_callm C 1 [.int (xs (j + 1))] (c_X9_lose (vD9 C) (xs (j + 1)) T) h9 wd_1107 wd_1108 wd_1109 wd_10 wd_1110 hy_X9_lose rfl (by decide) (by decide) hl.1 (Nat.le_of_ble_eq_true rfl) rfl dL_law_1133 ?_
  refine fun H locs hP hS => lv_icmp_eq (tgt := 1419) C.1.1 C.1.2.1 dL_law_1136 (by decide) (fun hc => ?_) (fun hc => ?_)
  · exact next S1 T1 hR1 H locs hP hS
  · exact absurd rfl hc
theorem lc_put {R : Sto → Sto → Prop} (C : CLw ad ad2 cI D tS p s m meth c b L xs) {j : Nat} (hok : Ok R (F_X8_put (xs (j + 1)) (xs (j + 2)) (xs (j + 3)) S) (F_X9_put (xs (j + 1)) (xs (j + 2)) (xs (j + 3)) T)) (hj : j + 7 ≤ L) (hl : lv_has ls 4 [(0, .ref b), (1, .ref (ad 0)), (2, .ref (ad2 0)), (3, .int (nI j))]) (next : ∀ S1 T1, R S1 T1 → LW ad ad2 cI D p l e s m below meth c b S1 T1 (F0 m 1419 ls [])) : LW ad ad2 cI D p l e s m below meth c b S T (F0 m 1141 ls []) := by
  obtain ⟨r, S1, T1, h8, h9, hR1⟩ := hok
  have h0 := lv_at hl 0 rfl
  have h3 := lv_at hl 3 rfl
  refine l_aload C dL_law_1141 rfl (lv_at hl 1 rfl) ?_
  refine l_arg (a1 := 0) (a2 := 0) (a3 := 0) (a4 := 0) C j 1 hl h0 h3 (by omega) (show ((1 : Int32)) = nI 1 from rfl) (by decide) dL_law_1142 dL_law_1143 dL_law_1144 dL_law_1145 dL_law_1146 ?_
  refine l_arg (a1 := 0) (a2 := 0) (a3 := 0) (a4 := 0) C j 2 hl h0 h3 (by omega) (show ((2 : Int32)) = nI 2 from rfl) (by decide) dL_law_1147 dL_law_1148 dL_law_1149 dL_law_1150 dL_law_1151 ?_
  refine l_arg (a1 := 0) (a2 := 0) (a3 := 0) (a4 := 0) C j 3 hl h0 h3 (by omega) (show ((3 : Int32)) = nI 3 from rfl) (by decide) dL_law_1152 dL_law_1153 dL_law_1154 dL_law_1155 dL_law_1156 ?_
  refine l_callc C 3 [.int (xs (j + 1)), .int (xs (j + 2)), .int (xs (j + 3))] (c_X8_put (vD8 C) (xs (j + 1)) (xs (j + 2)) (xs (j + 3)) S) h8 wd_676 wd_677 wd_678 wd_1 wd_679 hy_X8_put rfl (by decide) (by decide) hl.1 (Nat.le_of_ble_eq_true rfl) rfl dL_law_1157 ?_
  refine l_aload C dL_law_1160 rfl (lv_at hl 2 rfl) ?_
  refine l_arg (a1 := 0) (a2 := 0) (a3 := 0) (a4 := 0) C j 1 hl h0 h3 (by omega) (show ((1 : Int32)) = nI 1 from rfl) (by decide) dL_law_1161 dL_law_1162 dL_law_1163 dL_law_1164 dL_law_1165 ?_
  refine l_arg (a1 := 0) (a2 := 0) (a3 := 0) (a4 := 0) C j 2 hl h0 h3 (by omega) (show ((2 : Int32)) = nI 2 from rfl) (by decide) dL_law_1166 dL_law_1167 dL_law_1168 dL_law_1169 dL_law_1170 ?_
  refine l_arg (a1 := 0) (a2 := 0) (a3 := 0) (a4 := 0) C j 3 hl h0 h3 (by omega) (show ((3 : Int32)) = nI 3 from rfl) (by decide) dL_law_1171 dL_law_1172 dL_law_1173 dL_law_1174 dL_law_1175 ?_
  refine l_callm C 3 [.int (xs (j + 1)), .int (xs (j + 2)), .int (xs (j + 3))] (c_X9_put (vD9 C) (xs (j + 1)) (xs (j + 2)) (xs (j + 3)) T) h9 wd_1111 wd_1112 wd_1113 wd_10 wd_1114 hy_X9_put rfl (by decide) (by decide) hl.1 (Nat.le_of_ble_eq_true rfl) rfl dL_law_1176 ?_
  refine fun H locs hP hS => lv_icmp_eq (tgt := 1419) C.1.1 C.1.2.1 dL_law_1179 (by decide) (fun hc => ?_) (fun hc => ?_)
  · exact next S1 T1 hR1 H locs hP hS
  · exact absurd rfl hc
theorem lc_cell {R : Sto → Sto → Prop} (C : CLw ad ad2 cI D tS p s m meth c b L xs) {j : Nat} (hok : Ok R (F_X8_cell (xs (j + 1)) (xs (j + 2)) (xs (j + 3)) S) (F_X9_cell (xs (j + 1)) (xs (j + 2)) (xs (j + 3)) T)) (hj : j + 7 ≤ L) (hl : lv_has ls 4 [(0, .ref b), (1, .ref (ad 0)), (2, .ref (ad2 0)), (3, .int (nI j))]) (next : ∀ S1 T1, R S1 T1 → LW ad ad2 cI D p l e s m below meth c b S1 T1 (F0 m 1419 ls [])) : LW ad ad2 cI D p l e s m below meth c b S T (F0 m 1184 ls []) := by
  obtain ⟨r, S1, T1, h8, h9, hR1⟩ := hok
  have h0 := lv_at hl 0 rfl
  have h3 := lv_at hl 3 rfl
  refine l_aload C dL_law_1184 rfl (lv_at hl 1 rfl) ?_
  refine l_arg (a1 := 0) (a2 := 0) (a3 := 0) (a4 := 0) C j 1 hl h0 h3 (by omega) (show ((1 : Int32)) = nI 1 from rfl) (by decide) dL_law_1185 dL_law_1186 dL_law_1187 dL_law_1188 dL_law_1189 ?_
  refine l_arg (a1 := 0) (a2 := 0) (a3 := 0) (a4 := 0) C j 2 hl h0 h3 (by omega) (show ((2 : Int32)) = nI 2 from rfl) (by decide) dL_law_1190 dL_law_1191 dL_law_1192 dL_law_1193 dL_law_1194 ?_
  refine l_arg (a1 := 0) (a2 := 0) (a3 := 0) (a4 := 0) C j 3 hl h0 h3 (by omega) (show ((3 : Int32)) = nI 3 from rfl) (by decide) dL_law_1195 dL_law_1196 dL_law_1197 dL_law_1198 dL_law_1199 ?_
  refine l_calllc C 3 [.int (xs (j + 1)), .int (xs (j + 2)), .int (xs (j + 3))] (c_X8_cell (vD8 C) (xs (j + 1)) (xs (j + 2)) (xs (j + 3)) S) h8 wd_688 wd_689 wd_690 wd_1 wd_691 hy_X8_cell rfl (by decide) (by decide) hl.1 (Nat.le_of_ble_eq_true rfl) rfl dL_law_1200 ?_
  refine l_aload C dL_law_1203 rfl (lv_at hl 2 rfl) ?_
  refine l_arg (a1 := 0) (a2 := 0) (a3 := 0) (a4 := 0) C j 1 hl h0 h3 (by omega) (show ((1 : Int32)) = nI 1 from rfl) (by decide) dL_law_1204 dL_law_1205 dL_law_1206 dL_law_1207 dL_law_1208 ?_
  refine l_arg (a1 := 0) (a2 := 0) (a3 := 0) (a4 := 0) C j 2 hl h0 h3 (by omega) (show ((2 : Int32)) = nI 2 from rfl) (by decide) dL_law_1209 dL_law_1210 dL_law_1211 dL_law_1212 dL_law_1213 ?_
  refine l_arg (a1 := 0) (a2 := 0) (a3 := 0) (a4 := 0) C j 3 hl h0 h3 (by omega) (show ((3 : Int32)) = nI 3 from rfl) (by decide) dL_law_1214 dL_law_1215 dL_law_1216 dL_law_1217 dL_law_1218 ?_
  refine l_calllm C 3 [.int (xs (j + 1)), .int (xs (j + 2)), .int (xs (j + 3))] (c_X9_cell (vD9 C) (xs (j + 1)) (xs (j + 2)) (xs (j + 3)) T) h9 wd_1115 wd_1116 wd_1117 wd_10 wd_1118 hy_X9_cell rfl (by decide) (by decide) hl.1 (Nat.le_of_ble_eq_true rfl) rfl dL_law_1219 ?_
  refine LW.lift (fun _ _ _ k => W.lcmp C.1.1 C.1.2.1 dL_law_1222 k) ?_
  have e0 : lg_cmp r r = 0 := by simp [lg_cmp]
  rw [e0]
  refine fun H locs hP hS => lv_if_eq (tgt := 1419) C.1.1 C.1.2.1 dL_law_1223 (by decide) (fun hc => ?_) (fun hc => ?_)
  · exact next S1 T1 hR1 H locs hP hS
  · exact absurd rfl hc
theorem lc_copy {R : Sto → Sto → Prop} (C : CLw ad ad2 cI D tS p s m meth c b L xs) {j : Nat} (hok : Ok R (F_X8_copy (xs (j + 1)) (xs (j + 2)) (xs (j + 3)) (xs (j + 4)) (xs (j + 5)) S) (F_X9_copy (xs (j + 1)) (xs (j + 2)) (xs (j + 3)) (xs (j + 4)) (xs (j + 5)) T)) (hj : j + 7 ≤ L) (hl : lv_has ls 4 [(0, .ref b), (1, .ref (ad 0)), (2, .ref (ad2 0)), (3, .int (nI j))]) (next : ∀ S1 T1, R S1 T1 → LW ad ad2 cI D p l e s m below meth c b S1 T1 (F0 m 1419 ls [])) : LW ad ad2 cI D p l e s m below meth c b S T (F0 m 1228 ls []) := by
  obtain ⟨r, S1, T1, h8, h9, hR1⟩ := hok
  have h0 := lv_at hl 0 rfl
  have h3 := lv_at hl 3 rfl
  refine l_aload C dL_law_1228 rfl (lv_at hl 1 rfl) ?_
  refine l_arg (a1 := 0) (a2 := 0) (a3 := 0) (a4 := 0) C j 1 hl h0 h3 (by omega) (show ((1 : Int32)) = nI 1 from rfl) (by decide) dL_law_1229 dL_law_1230 dL_law_1231 dL_law_1232 dL_law_1233 ?_
  refine l_arg (a1 := 0) (a2 := 0) (a3 := 0) (a4 := 0) C j 2 hl h0 h3 (by omega) (show ((2 : Int32)) = nI 2 from rfl) (by decide) dL_law_1234 dL_law_1235 dL_law_1236 dL_law_1237 dL_law_1238 ?_
  refine l_arg (a1 := 0) (a2 := 0) (a3 := 0) (a4 := 0) C j 3 hl h0 h3 (by omega) (show ((3 : Int32)) = nI 3 from rfl) (by decide) dL_law_1239 dL_law_1240 dL_law_1241 dL_law_1242 dL_law_1243 ?_
  refine l_arg (a1 := 0) (a2 := 0) (a3 := 0) (a4 := 0) C j 4 hl h0 h3 (by omega) (show ((4 : Int32)) = nI 4 from rfl) (by decide) dL_law_1244 dL_law_1245 dL_law_1246 dL_law_1247 dL_law_1248 ?_
  refine l_arg (a1 := 0) (a2 := 0) (a3 := 0) (a4 := 0) C j 5 hl h0 h3 (by omega) (show ((5 : Int32)) = nI 5 from rfl) (by decide) dL_law_1249 dL_law_1250 dL_law_1251 dL_law_1252 dL_law_1253 ?_
  refine l_callc C 5 [.int (xs (j + 1)), .int (xs (j + 2)), .int (xs (j + 3)), .int (xs (j + 4)), .int (xs (j + 5))] (c_X8_copy (vD8 C) (xs (j + 1)) (xs (j + 2)) (xs (j + 3)) (xs (j + 4)) (xs (j + 5)) S) h8 wd_692 wd_693 wd_694 wd_1 wd_695 hy_X8_copy rfl (by decide) (by decide) hl.1 (Nat.le_of_ble_eq_true rfl) rfl dL_law_1254 ?_
  refine l_aload C dL_law_1257 rfl (lv_at hl 2 rfl) ?_
  refine l_arg (a1 := 0) (a2 := 0) (a3 := 0) (a4 := 0) C j 1 hl h0 h3 (by omega) (show ((1 : Int32)) = nI 1 from rfl) (by decide) dL_law_1258 dL_law_1259 dL_law_1260 dL_law_1261 dL_law_1262 ?_
  refine l_arg (a1 := 0) (a2 := 0) (a3 := 0) (a4 := 0) C j 2 hl h0 h3 (by omega) (show ((2 : Int32)) = nI 2 from rfl) (by decide) dL_law_1263 dL_law_1264 dL_law_1265 dL_law_1266 dL_law_1267 ?_
  refine l_arg (a1 := 0) (a2 := 0) (a3 := 0) (a4 := 0) C j 3 hl h0 h3 (by omega) (show ((3 : Int32)) = nI 3 from rfl) (by decide) dL_law_1268 dL_law_1269 dL_law_1270 dL_law_1271 dL_law_1272 ?_
  refine l_arg (a1 := 0) (a2 := 0) (a3 := 0) (a4 := 0) C j 4 hl h0 h3 (by omega) (show ((4 : Int32)) = nI 4 from rfl) (by decide) dL_law_1273 dL_law_1274 dL_law_1275 dL_law_1276 dL_law_1277 ?_
  refine l_arg (a1 := 0) (a2 := 0) (a3 := 0) (a4 := 0) C j 5 hl h0 h3 (by omega) (show ((5 : Int32)) = nI 5 from rfl) (by decide) dL_law_1278 dL_law_1279 dL_law_1280 dL_law_1281 dL_law_1282 ?_
  refine l_callm C 5 [.int (xs (j + 1)), .int (xs (j + 2)), .int (xs (j + 3)), .int (xs (j + 4)), .int (xs (j + 5))] (c_X9_copy (vD9 C) (xs (j + 1)) (xs (j + 2)) (xs (j + 3)) (xs (j + 4)) (xs (j + 5)) T) h9 wd_1123 wd_1124 wd_1125 wd_10 wd_1126 hy_X9_copy rfl (by decide) (by decide) hl.1 (Nat.le_of_ble_eq_true rfl) rfl dL_law_1283 ?_
  refine fun H locs hP hS => lv_icmp_eq (tgt := 1419) C.1.1 C.1.2.1 dL_law_1286 (by decide) (fun hc => ?_) (fun hc => ?_)
  · exact next S1 T1 hR1 H locs hP hS
  · exact absurd rfl hc
theorem lc_tell {R : Sto → Sto → Prop} (C : CLw ad ad2 cI D tS p s m meth c b L xs) {j : Nat} (hok : Ok R (F_X8_tell (xs (j + 1)) S) (F_X9_tell (xs (j + 1)) T)) (hj : j + 7 ≤ L) (hl : lv_has ls 4 [(0, .ref b), (1, .ref (ad 0)), (2, .ref (ad2 0)), (3, .int (nI j))]) (next : ∀ S1 T1, R S1 T1 → LW ad ad2 cI D p l e s m below meth c b S1 T1 (F0 m 1419 ls [])) : LW ad ad2 cI D p l e s m below meth c b S T (F0 m 1291 ls []) := by
  obtain ⟨r, S1, T1, h8, h9, hR1⟩ := hok
  have h0 := lv_at hl 0 rfl
  have h3 := lv_at hl 3 rfl
  refine l_aload C dL_law_1291 rfl (lv_at hl 1 rfl) ?_
  refine l_arg (a1 := 0) (a2 := 0) (a3 := 0) (a4 := 0) C j 1 hl h0 h3 (by omega) (show ((1 : Int32)) = nI 1 from rfl) (by decide) dL_law_1292 dL_law_1293 dL_law_1294 dL_law_1295 dL_law_1296 ?_
  refine l_callc C 1 [.int (xs (j + 1))] (c_X8_tell (vD8 C) (xs (j + 1)) S) h8 wd_700 wd_701 wd_702 wd_1 wd_703 hy_X8_tell rfl (by decide) (by decide) hl.1 (Nat.le_of_ble_eq_true rfl) rfl dL_law_1297 ?_
  refine l_aload C dL_law_1300 rfl (lv_at hl 2 rfl) ?_
  refine l_arg (a1 := 0) (a2 := 0) (a3 := 0) (a4 := 0) C j 1 hl h0 h3 (by omega) (show ((1 : Int32)) = nI 1 from rfl) (by decide) dL_law_1301 dL_law_1302 dL_law_1303 dL_law_1304 dL_law_1305 ?_
  refine l_callm C 1 [.int (xs (j + 1))] (c_X9_tell (vD9 C) (xs (j + 1)) T) h9 wd_1127 wd_1128 wd_1129 wd_10 wd_1130 hy_X9_tell rfl (by decide) (by decide) hl.1 (Nat.le_of_ble_eq_true rfl) rfl dL_law_1306 ?_
  refine fun H locs hP hS => lv_icmp_eq (tgt := 1419) C.1.1 C.1.2.1 dL_law_1309 (by decide) (fun hc => ?_) (fun hc => ?_)
  · exact next S1 T1 hR1 H locs hP hS
  · exact absurd rfl hc
theorem lc_hear {R : Sto → Sto → Prop} (C : CLw ad ad2 cI D tS p s m meth c b L xs) {j : Nat} (hok : Ok R (F_X8_hear (xs (j + 1)) S) (F_X9_hear (xs (j + 1)) T)) (hj : j + 7 ≤ L) (hl : lv_has ls 4 [(0, .ref b), (1, .ref (ad 0)), (2, .ref (ad2 0)), (3, .int (nI j))]) (next : ∀ S1 T1, R S1 T1 → LW ad ad2 cI D p l e s m below meth c b S1 T1 (F0 m 1419 ls [])) : LW ad ad2 cI D p l e s m below meth c b S T (F0 m 1314 ls []) := by
  obtain ⟨r, S1, T1, h8, h9, hR1⟩ := hok
  have h0 := lv_at hl 0 rfl
  have h3 := lv_at hl 3 rfl
  refine l_aload C dL_law_1314 rfl (lv_at hl 1 rfl) ?_
  refine l_arg (a1 := 0) (a2 := 0) (a3 := 0) (a4 := 0) C j 1 hl h0 h3 (by omega) (show ((1 : Int32)) = nI 1 from rfl) (by decide) dL_law_1315 dL_law_1316 dL_law_1317 dL_law_1318 dL_law_1319 ?_
  refine l_callc C 1 [.int (xs (j + 1))] (c_X8_hear (vD8 C) (xs (j + 1)) S) h8 wd_720 wd_721 wd_722 wd_1 wd_723 hy_X8_hear rfl (by decide) (by decide) hl.1 (Nat.le_of_ble_eq_true rfl) rfl dL_law_1320 ?_
  refine l_aload C dL_law_1323 rfl (lv_at hl 2 rfl) ?_
  refine l_arg (a1 := 0) (a2 := 0) (a3 := 0) (a4 := 0) C j 1 hl h0 h3 (by omega) (show ((1 : Int32)) = nI 1 from rfl) (by decide) dL_law_1324 dL_law_1325 dL_law_1326 dL_law_1327 dL_law_1328 ?_
  refine l_callm C 1 [.int (xs (j + 1))] (c_X9_hear (vD9 C) (xs (j + 1)) T) h9 wd_1135 wd_1136 wd_1137 wd_10 wd_1138 hy_X9_hear rfl (by decide) (by decide) hl.1 (Nat.le_of_ble_eq_true rfl) rfl dL_law_1329 ?_
  refine fun H locs hP hS => lv_icmp_eq (tgt := 1419) C.1.1 C.1.2.1 dL_law_1332 (by decide) (fun hc => ?_) (fun hc => ?_)
  · exact next S1 T1 hR1 H locs hP hS
  · exact absurd rfl hc
theorem lc_as {R : Sto → Sto → Prop} (C : CLw ad ad2 cI D tS p s m meth c b L xs) {j : Nat} (hok : Ok R (F_X8_as (xs (j + 1)) (xs (j + 2)) S) (F_X9_as (xs (j + 1)) (xs (j + 2)) T)) (hj : j + 7 ≤ L) (hl : lv_has ls 4 [(0, .ref b), (1, .ref (ad 0)), (2, .ref (ad2 0)), (3, .int (nI j))]) (next : ∀ S1 T1, R S1 T1 → LW ad ad2 cI D p l e s m below meth c b S1 T1 (F0 m 1419 ls [])) : LW ad ad2 cI D p l e s m below meth c b S T (F0 m 1337 ls []) := by
  obtain ⟨r, S1, T1, h8, h9, hR1⟩ := hok
  have h0 := lv_at hl 0 rfl
  have h3 := lv_at hl 3 rfl
  refine l_aload C dL_law_1337 rfl (lv_at hl 1 rfl) ?_
  refine l_arg (a1 := 0) (a2 := 0) (a3 := 0) (a4 := 0) C j 1 hl h0 h3 (by omega) (show ((1 : Int32)) = nI 1 from rfl) (by decide) dL_law_1338 dL_law_1339 dL_law_1340 dL_law_1341 dL_law_1342 ?_
  refine l_arg (a1 := 0) (a2 := 0) (a3 := 0) (a4 := 0) C j 2 hl h0 h3 (by omega) (show ((2 : Int32)) = nI 2 from rfl) (by decide) dL_law_1343 dL_law_1344 dL_law_1345 dL_law_1346 dL_law_1347 ?_
  refine l_callc C 2 [.int (xs (j + 1)), .int (xs (j + 2))] (c_X8_as (vD8 C) (xs (j + 1)) (xs (j + 2)) S) h8 wd_724 wd_725 wd_726 wd_1 wd_727 hy_X8_as rfl (by decide) (by decide) hl.1 (Nat.le_of_ble_eq_true rfl) rfl dL_law_1348 ?_
  refine l_aload C dL_law_1351 rfl (lv_at hl 2 rfl) ?_
  refine l_arg (a1 := 0) (a2 := 0) (a3 := 0) (a4 := 0) C j 1 hl h0 h3 (by omega) (show ((1 : Int32)) = nI 1 from rfl) (by decide) dL_law_1352 dL_law_1353 dL_law_1354 dL_law_1355 dL_law_1356 ?_
  refine l_arg (a1 := 0) (a2 := 0) (a3 := 0) (a4 := 0) C j 2 hl h0 h3 (by omega) (show ((2 : Int32)) = nI 2 from rfl) (by decide) dL_law_1357 dL_law_1358 dL_law_1359 dL_law_1360 dL_law_1361 ?_
  refine l_callm C 2 [.int (xs (j + 1)), .int (xs (j + 2))] (c_X9_as (vD9 C) (xs (j + 1)) (xs (j + 2)) T) h9 wd_1139 wd_1140 wd_1141 wd_10 wd_1142 hy_X9_as rfl (by decide) (by decide) hl.1 (Nat.le_of_ble_eq_true rfl) rfl dL_law_1362 ?_
  refine fun H locs hP hS => lv_icmp_eq (tgt := 1419) C.1.1 C.1.2.1 dL_law_1365 (by decide) (fun hc => ?_) (fun hc => ?_)
  · exact next S1 T1 hR1 H locs hP hS
  · exact absurd rfl hc
theorem lc_trace {R : Sto → Sto → Prop} (C : CLw ad ad2 cI D tS p s m meth c b L xs) {j : Nat} (hok : Ok R (F_X8_trace  S) (F_X9_trace  T)) (hj : j + 7 ≤ L) (hl : lv_has ls 4 [(0, .ref b), (1, .ref (ad 0)), (2, .ref (ad2 0)), (3, .int (nI j))]) (next : ∀ S1 T1, R S1 T1 → LW ad ad2 cI D p l e s m below meth c b S1 T1 (F0 m 1419 ls [])) : LW ad ad2 cI D p l e s m below meth c b S T (F0 m 1370 ls []) := by
  obtain ⟨r, S1, T1, h8, h9, hR1⟩ := hok
  have h0 := lv_at hl 0 rfl
  have h3 := lv_at hl 3 rfl
  refine l_aload C dL_law_1370 rfl (lv_at hl 1 rfl) ?_
  refine l_callc C 0 [] (c_X8_trace (vD8 C)  S) h8 wd_728 wd_729 wd_730 wd_1 wd_731 hy_X8_trace rfl (by decide) (by decide) hl.1 (Nat.le_of_ble_eq_true rfl) rfl dL_law_1371 ?_
  refine l_aload C dL_law_1374 rfl (lv_at hl 2 rfl) ?_
  refine l_callm C 0 [] (c_X9_trace (vD9 C)  T) h9 wd_1143 wd_1144 wd_1145 wd_10 wd_1146 hy_X9_trace rfl (by decide) (by decide) hl.1 (Nat.le_of_ble_eq_true rfl) rfl dL_law_1375 ?_
  refine fun H locs hP hS => lv_icmp_eq (tgt := 1419) C.1.1 C.1.2.1 dL_law_1378 (by decide) (fun hc => ?_) (fun hc => ?_)
  · exact next S1 T1 hR1 H locs hP hS
  · exact absurd rfl hc
theorem lc_fault {R : Sto → Sto → Prop} (C : CLw ad ad2 cI D tS p s m meth c b L xs) {j : Nat} (hok : Ok R (F_X8_fault  S) (F_X9_fault  T)) (hj : j + 7 ≤ L) (hl : lv_has ls 4 [(0, .ref b), (1, .ref (ad 0)), (2, .ref (ad2 0)), (3, .int (nI j))]) (next : ∀ S1 T1, R S1 T1 → LW ad ad2 cI D p l e s m below meth c b S1 T1 (F0 m 1419 ls [])) : LW ad ad2 cI D p l e s m below meth c b S T (F0 m 1383 ls []) := by
  obtain ⟨r, S1, T1, h8, h9, hR1⟩ := hok
  have h0 := lv_at hl 0 rfl
  have h3 := lv_at hl 3 rfl
  refine l_aload C dL_law_1383 rfl (lv_at hl 1 rfl) ?_
  refine l_callc C 0 [] (c_X8_fault (vD8 C)  S) h8 wd_732 wd_733 wd_734 wd_1 wd_735 hy_X8_fault rfl (by decide) (by decide) hl.1 (Nat.le_of_ble_eq_true rfl) rfl dL_law_1384 ?_
  refine l_aload C dL_law_1387 rfl (lv_at hl 2 rfl) ?_
  refine l_callm C 0 [] (c_X9_fault (vD9 C)  T) h9 wd_1147 wd_1148 wd_1149 wd_10 wd_1150 hy_X9_fault rfl (by decide) (by decide) hl.1 (Nat.le_of_ble_eq_true rfl) rfl dL_law_1388 ?_
  refine fun H locs hP hS => lv_icmp_eq (tgt := 1419) C.1.1 C.1.2.1 dL_law_1391 (by decide) (fun hc => ?_) (fun hc => ?_)
  · exact next S1 T1 hR1 H locs hP hS
  · exact absurd rfl hc
theorem lc_many {R : Sto → Sto → Prop} (C : CLw ad ad2 cI D tS p s m meth c b L xs) {j : Nat} (hok : Ok R (F_X8_many (xs (j + 1)) S) (F_X9_many (xs (j + 1)) T)) (hj : j + 7 ≤ L) (hl : lv_has ls 4 [(0, .ref b), (1, .ref (ad 0)), (2, .ref (ad2 0)), (3, .int (nI j))]) (next : ∀ S1 T1, R S1 T1 → LW ad ad2 cI D p l e s m below meth c b S1 T1 (F0 m 1419 ls [])) : LW ad ad2 cI D p l e s m below meth c b S T (F0 m 1396 ls []) := by
  obtain ⟨r, S1, T1, h8, h9, hR1⟩ := hok
  have h0 := lv_at hl 0 rfl
  have h3 := lv_at hl 3 rfl
  refine l_aload C dL_law_1396 rfl (lv_at hl 1 rfl) ?_
  refine l_arg (a1 := 0) (a2 := 0) (a3 := 0) (a4 := 0) C j 1 hl h0 h3 (by omega) (show ((1 : Int32)) = nI 1 from rfl) (by decide) dL_law_1397 dL_law_1398 dL_law_1399 dL_law_1400 dL_law_1401 ?_
  refine l_callc C 1 [.int (xs (j + 1))] (c_X8_many (vD8 C) (xs (j + 1)) S) h8 wd_736 wd_737 wd_738 wd_1 wd_739 hy_X8_many rfl (by decide) (by decide) hl.1 (Nat.le_of_ble_eq_true rfl) rfl dL_law_1402 ?_
  refine l_aload C dL_law_1405 rfl (lv_at hl 2 rfl) ?_
  refine l_arg (a1 := 0) (a2 := 0) (a3 := 0) (a4 := 0) C j 1 hl h0 h3 (by omega) (show ((1 : Int32)) = nI 1 from rfl) (by decide) dL_law_1406 dL_law_1407 dL_law_1408 dL_law_1409 dL_law_1410 ?_
  refine l_callm C 1 [.int (xs (j + 1))] (c_X9_many (vD9 C) (xs (j + 1)) T) h9 wd_1151 wd_1152 wd_1153 wd_10 wd_1154 hy_X9_many rfl (by decide) (by decide) hl.1 (Nat.le_of_ble_eq_true rfl) rfl dL_law_1411 ?_
  refine fun H locs hP hS => lv_icmp_eq (tgt := 1419) C.1.1 C.1.2.1 dL_law_1414 (by decide) (fun hc => ?_) (fun hc => ?_)
  · exact next S1 T1 hR1 H locs hP hS
  · exact absurd rfl hc
theorem sw35 (x : Int32) : (x = (0 : Int32) ∨ x = (1 : Int32) ∨ x = (2 : Int32) ∨ x = (3 : Int32) ∨ x = (4 : Int32) ∨ x = (5 : Int32) ∨ x = (6 : Int32) ∨ x = (7 : Int32) ∨ x = (8 : Int32) ∨ x = (9 : Int32) ∨ x = (10 : Int32) ∨ x = (11 : Int32) ∨ x = (12 : Int32) ∨ x = (13 : Int32) ∨ x = (14 : Int32) ∨ x = (15 : Int32) ∨ x = (16 : Int32) ∨ x = (17 : Int32) ∨ x = (18 : Int32) ∨ x = (19 : Int32) ∨ x = (20 : Int32) ∨ x = (21 : Int32) ∨ x = (22 : Int32) ∨ x = (23 : Int32) ∨ x = (24 : Int32) ∨ x = (25 : Int32) ∨ x = (26 : Int32) ∨ x = (27 : Int32) ∨ x = (28 : Int32) ∨ x = (29 : Int32) ∨ x = (30 : Int32) ∨ x = (31 : Int32) ∨ x = (32 : Int32) ∨ x = (33 : Int32) ∨ x = (34 : Int32)) ∨ (x.toInt < 0 ∨ 34 < x.toInt) := by
  by_cases h : x.toInt < 0 ∨ 34 < x.toInt
  · exact Or.inr h
  · left
    have e : ∀ k : Int32, x.toInt = k.toInt → x = k := fun k h => Int32.toInt_inj.mp h
    rcases (show x.toInt = 0 ∨ x.toInt = 1 ∨ x.toInt = 2 ∨ x.toInt = 3 ∨ x.toInt = 4 ∨ x.toInt = 5 ∨ x.toInt = 6 ∨ x.toInt = 7 ∨ x.toInt = 8 ∨ x.toInt = 9 ∨ x.toInt = 10 ∨ x.toInt = 11 ∨ x.toInt = 12 ∨ x.toInt = 13 ∨ x.toInt = 14 ∨ x.toInt = 15 ∨ x.toInt = 16 ∨ x.toInt = 17 ∨ x.toInt = 18 ∨ x.toInt = 19 ∨ x.toInt = 20 ∨ x.toInt = 21 ∨ x.toInt = 22 ∨ x.toInt = 23 ∨ x.toInt = 24 ∨ x.toInt = 25 ∨ x.toInt = 26 ∨ x.toInt = 27 ∨ x.toInt = 28 ∨ x.toInt = 29 ∨ x.toInt = 30 ∨ x.toInt = 31 ∨ x.toInt = 32 ∨ x.toInt = 33 ∨ x.toInt = 34 by omega) with hk | hk | hk | hk | hk | hk | hk | hk | hk | hk | hk | hk | hk | hk | hk | hk | hk | hk | hk | hk | hk | hk | hk | hk | hk | hk | hk | hk | hk | hk | hk | hk | hk | hk | hk
    · rw [e (0 : Int32) (hk.trans (by decide))]; decide
    · rw [e (1 : Int32) (hk.trans (by decide))]; decide
    · rw [e (2 : Int32) (hk.trans (by decide))]; decide
    · rw [e (3 : Int32) (hk.trans (by decide))]; decide
    · rw [e (4 : Int32) (hk.trans (by decide))]; decide
    · rw [e (5 : Int32) (hk.trans (by decide))]; decide
    · rw [e (6 : Int32) (hk.trans (by decide))]; decide
    · rw [e (7 : Int32) (hk.trans (by decide))]; decide
    · rw [e (8 : Int32) (hk.trans (by decide))]; decide
    · rw [e (9 : Int32) (hk.trans (by decide))]; decide
    · rw [e (10 : Int32) (hk.trans (by decide))]; decide
    · rw [e (11 : Int32) (hk.trans (by decide))]; decide
    · rw [e (12 : Int32) (hk.trans (by decide))]; decide
    · rw [e (13 : Int32) (hk.trans (by decide))]; decide
    · rw [e (14 : Int32) (hk.trans (by decide))]; decide
    · rw [e (15 : Int32) (hk.trans (by decide))]; decide
    · rw [e (16 : Int32) (hk.trans (by decide))]; decide
    · rw [e (17 : Int32) (hk.trans (by decide))]; decide
    · rw [e (18 : Int32) (hk.trans (by decide))]; decide
    · rw [e (19 : Int32) (hk.trans (by decide))]; decide
    · rw [e (20 : Int32) (hk.trans (by decide))]; decide
    · rw [e (21 : Int32) (hk.trans (by decide))]; decide
    · rw [e (22 : Int32) (hk.trans (by decide))]; decide
    · rw [e (23 : Int32) (hk.trans (by decide))]; decide
    · rw [e (24 : Int32) (hk.trans (by decide))]; decide
    · rw [e (25 : Int32) (hk.trans (by decide))]; decide
    · rw [e (26 : Int32) (hk.trans (by decide))]; decide
    · rw [e (27 : Int32) (hk.trans (by decide))]; decide
    · rw [e (28 : Int32) (hk.trans (by decide))]; decide
    · rw [e (29 : Int32) (hk.trans (by decide))]; decide
    · rw [e (30 : Int32) (hk.trans (by decide))]; decide
    · rw [e (31 : Int32) (hk.trans (by decide))]; decide
    · rw [e (32 : Int32) (hk.trans (by decide))]; decide
    · rw [e (33 : Int32) (hk.trans (by decide))]; decide
    · rw [e (34 : Int32) (hk.trans (by decide))]; decide
set_option maxHeartbeats 4000000 in
theorem law_case {R : Sto → Sto → Prop} (hok : AllOk R) (C : CLw ad ad2 cI D tS p s m meth c b L xs) {j : Nat} (hR : R S T) (hj7 : j + 7 ≤ L) (hl : lv_has ls 4 [(0, .ref b), (1, .ref (ad 0)), (2, .ref (ad2 0)), (3, .int (nI j))]) (next : ∀ S1 T1, R S1 T1 → LW ad ad2 cI D p l e s m below meth c b S1 T1 (F0 m 1419 ls [])) : LW ad ad2 cI D p l e s m below meth c b S T (F0 m 27 ls []) := by
  refine l_aload C dL_law_27 rfl (lv_at hl 0 rfl) ?_
  refine l_iload C dL_law_28 rfl (lv_at hl 3 rfl) ?_
  refine l_sld C j rfl (by omega) dL_law_29 ?_
  refine LW.lift (fun _ _ _ k => lv_bipush (v := 63) C.1.1 C.1.2.1 dL_law_30 (by decide) k) ?_
  refine LW.lift (fun _ _ _ k => lv_iand C.1.1 C.1.2.1 dL_law_32 k) ?_
  generalize xs j &&& 63 = x
  rcases sw35 x with (hc | hc | hc | hc | hc | hc | hc | hc | hc | hc | hc | hc | hc | hc | hc | hc | hc | hc | hc | hc | hc | hc | hc | hc | hc | hc | hc | hc | hc | hc | hc | hc | hc | hc | hc) | hc
  · refine LW.lift (fun _ _ _ k => lv_tableIn (off := 155) (tgt := 188) C.1.1 C.1.2.1 dL_law_33 (by rw [hc]; decide) (by rw [hc]; decide) (by rw [hc]; decide) (by decide) k) ?_
    exact lc_house C (hok.1 (xs (j + 1)) (xs (j + 2)) (xs (j + 3)) (xs (j + 4)) S T hR) hj7 hl next
  · refine LW.lift (fun _ _ _ k => lv_tableIn (off := 208) (tgt := 241) C.1.1 C.1.2.1 dL_law_33 (by rw [hc]; decide) (by rw [hc]; decide) (by rw [hc]; decide) (by decide) k) ?_
    exact lc_ofDoer C (hok.2.1 (xs (j + 1)) (xs (j + 2)) S T hR) hj7 hl next
  · refine LW.lift (fun _ _ _ k => lv_tableIn (off := 241) (tgt := 274) C.1.1 C.1.2.1 dL_law_33 (by rw [hc]; decide) (by rw [hc]; decide) (by rw [hc]; decide) (by decide) k) ?_
    exact lc_ofPen C (hok.2.2.1 (xs (j + 1)) (xs (j + 2)) S T hR) hj7 hl next
  · refine LW.lift (fun _ _ _ k => lv_tableIn (off := 274) (tgt := 307) C.1.1 C.1.2.1 dL_law_33 (by rw [hc]; decide) (by rw [hc]; decide) (by rw [hc]; decide) (by decide) k) ?_
    exact lc_creak C (hok.2.2.2.1 (xs (j + 1)) S T hR) hj7 hl next
  · refine LW.lift (fun _ _ _ k => lv_tableIn (off := 297) (tgt := 330) C.1.1 C.1.2.1 dL_law_33 (by rw [hc]; decide) (by rw [hc]; decide) (by rw [hc]; decide) (by decide) k) ?_
    exact lc_oil C (hok.2.2.2.2.1 (xs (j + 1)) (xs (j + 2)) S T hR) hj7 hl next
  · refine LW.lift (fun _ _ _ k => lv_tableIn (off := 330) (tgt := 363) C.1.1 C.1.2.1 dL_law_33 (by rw [hc]; decide) (by rw [hc]; decide) (by rw [hc]; decide) (by decide) k) ?_
    exact lc_dine C (hok.2.2.2.2.2.1 (xs (j + 1)) (xs (j + 2)) S T hR) hj7 hl next
  · refine LW.lift (fun _ _ _ k => lv_tableIn (off := 363) (tgt := 396) C.1.1 C.1.2.1 dL_law_33 (by rw [hc]; decide) (by rw [hc]; decide) (by rw [hc]; decide) (by decide) k) ?_
    exact lc_carry C (hok.2.2.2.2.2.2.1 (xs (j + 1)) (xs (j + 2)) S T hR) hj7 hl next
  · refine LW.lift (fun _ _ _ k => lv_tableIn (off := 396) (tgt := 429) C.1.1 C.1.2.1 dL_law_33 (by rw [hc]; decide) (by rw [hc]; decide) (by rw [hc]; decide) (by decide) k) ?_
    exact lc_leap C (hok.2.2.2.2.2.2.2.1 (xs (j + 1)) S T hR) hj7 hl next
  · refine LW.lift (fun _ _ _ k => lv_tableIn (off := 419) (tgt := 452) C.1.1 C.1.2.1 dL_law_33 (by rw [hc]; decide) (by rw [hc]; decide) (by rw [hc]; decide) (by decide) k) ?_
    exact lc_bump C (hok.2.2.2.2.2.2.2.2.1 (xs (j + 1)) (xs (j + 2)) (xs (j + 3)) S T hR) hj7 hl next
  · refine LW.lift (fun _ _ _ k => lv_tableIn (off := 462) (tgt := 495) C.1.1 C.1.2.1 dL_law_33 (by rw [hc]; decide) (by rw [hc]; decide) (by rw [hc]; decide) (by decide) k) ?_
    exact lc_step C (hok.2.2.2.2.2.2.2.2.2.1 (xs (j + 1)) (xs (j + 2)) S T hR) hj7 hl next
  · refine LW.lift (fun _ _ _ k => lv_tableIn (off := 495) (tgt := 528) C.1.1 C.1.2.1 dL_law_33 (by rw [hc]; decide) (by rw [hc]; decide) (by rw [hc]; decide) (by decide) k) ?_
    exact lc_paper C (hok.2.2.2.2.2.2.2.2.2.2.1  S T hR) hj7 hl next
  · refine LW.lift (fun _ _ _ k => lv_tableIn (off := 508) (tgt := 541) C.1.1 C.1.2.1 dL_law_33 (by rw [hc]; decide) (by rw [hc]; decide) (by rw [hc]; decide) (by decide) k) ?_
    exact lc_night C (hok.2.2.2.2.2.2.2.2.2.2.2.1 (xs (j + 1)) (xs (j + 2)) (xs (j + 3)) (xs (j + 4)) (xs (j + 5)) (xs (j + 6)) S T hR) hj7 hl next
  · refine LW.lift (fun _ _ _ k => lv_tableIn (off := 583) (tgt := 616) C.1.1 C.1.2.1 dL_law_33 (by rw [hc]; decide) (by rw [hc]; decide) (by rw [hc]; decide) (by decide) k) ?_
    exact lc_quiet C (hok.2.2.2.2.2.2.2.2.2.2.2.2.1 (xs (j + 1)) (xs (j + 2)) (xs (j + 3)) S T hR) hj7 hl next
  · refine LW.lift (fun _ _ _ k => lv_tableIn (off := 626) (tgt := 659) C.1.1 C.1.2.1 dL_law_33 (by rw [hc]; decide) (by rw [hc]; decide) (by rw [hc]; decide) (by decide) k) ?_
    exact lc_meet C (hok.2.2.2.2.2.2.2.2.2.2.2.2.2.1 (xs (j + 1)) (xs (j + 2)) (xs (j + 3)) S T hR) hj7 hl next
  · refine LW.lift (fun _ _ _ k => lv_tableIn (off := 669) (tgt := 702) C.1.1 C.1.2.1 dL_law_33 (by rw [hc]; decide) (by rw [hc]; decide) (by rw [hc]; decide) (by decide) k) ?_
    exact lc_fits C (hok.2.2.2.2.2.2.2.2.2.2.2.2.2.2.1 (xs (j + 1)) (xs (j + 2)) (xs (j + 3)) (xs (j + 4)) (xs (j + 5)) (xs (j + 6)) S T hR) hj7 hl next
  · refine LW.lift (fun _ _ _ k => lv_tableIn (off := 744) (tgt := 777) C.1.1 C.1.2.1 dL_law_33 (by rw [hc]; decide) (by rw [hc]; decide) (by rw [hc]; decide) (by decide) k) ?_
    exact lc_joins C (hok.2.2.2.2.2.2.2.2.2.2.2.2.2.2.2.1 (xs (j + 1)) (xs (j + 2)) (xs (j + 3)) (xs (j + 4)) (xs (j + 5)) S T hR) hj7 hl next
  · refine LW.lift (fun _ _ _ k => lv_tableIn (off := 807) (tgt := 840) C.1.1 C.1.2.1 dL_law_33 (by rw [hc]; decide) (by rw [hc]; decide) (by rw [hc]; decide) (by decide) k) ?_
    exact lc_loud C (hok.2.2.2.2.2.2.2.2.2.2.2.2.2.2.2.2.1 (xs (j + 1)) (xs (j + 2)) S T hR) hj7 hl next
  · refine LW.lift (fun _ _ _ k => lv_tableIn (off := 840) (tgt := 873) C.1.1 C.1.2.1 dL_law_33 (by rw [hc]; decide) (by rw [hc]; decide) (by rw [hc]; decide) (by decide) k) ?_
    exact lc_part C (hok.2.2.2.2.2.2.2.2.2.2.2.2.2.2.2.2.2.1  S T hR) hj7 hl next
  · refine LW.lift (fun _ _ _ k => lv_tableIn (off := 853) (tgt := 886) C.1.1 C.1.2.1 dL_law_33 (by rw [hc]; decide) (by rw [hc]; decide) (by rw [hc]; decide) (by decide) k) ?_
    exact lc_reading C (hok.2.2.2.2.2.2.2.2.2.2.2.2.2.2.2.2.2.2.1 (xs (j + 1)) (xs (j + 2)) (xs (j + 3)) (xs (j + 4)) S T hR) hj7 hl next
  · refine LW.lift (fun _ _ _ k => lv_tableIn (off := 906) (tgt := 939) C.1.1 C.1.2.1 dL_law_33 (by rw [hc]; decide) (by rw [hc]; decide) (by rw [hc]; decide) (by decide) k) ?_
    exact lc_back C (hok.2.2.2.2.2.2.2.2.2.2.2.2.2.2.2.2.2.2.2.1 (xs (j + 1)) S T hR) hj7 hl next
  · refine LW.lift (fun _ _ _ k => lv_tableIn (off := 929) (tgt := 962) C.1.1 C.1.2.1 dL_law_33 (by rw [hc]; decide) (by rw [hc]; decide) (by rw [hc]; decide) (by decide) k) ?_
    exact lc_weights C (hok.2.2.2.2.2.2.2.2.2.2.2.2.2.2.2.2.2.2.2.2.1 (xs (j + 1)) S T hR) hj7 hl next
  · refine LW.lift (fun _ _ _ k => lv_tableIn (off := 952) (tgt := 985) C.1.1 C.1.2.1 dL_law_33 (by rw [hc]; decide) (by rw [hc]; decide) (by rw [hc]; decide) (by decide) k) ?_
    exact lc_kinds C (hok.2.2.2.2.2.2.2.2.2.2.2.2.2.2.2.2.2.2.2.2.2.1 (xs (j + 1)) S T hR) hj7 hl next
  · refine LW.lift (fun _ _ _ k => lv_tableIn (off := 975) (tgt := 1008) C.1.1 C.1.2.1 dL_law_33 (by rw [hc]; decide) (by rw [hc]; decide) (by rw [hc]; decide) (by decide) k) ?_
    exact lc_creaks C (hok.2.2.2.2.2.2.2.2.2.2.2.2.2.2.2.2.2.2.2.2.2.2.1 (xs (j + 1)) S T hR) hj7 hl next
  · refine LW.lift (fun _ _ _ k => lv_tableIn (off := 998) (tgt := 1031) C.1.1 C.1.2.1 dL_law_33 (by rw [hc]; decide) (by rw [hc]; decide) (by rw [hc]; decide) (by decide) k) ?_
    exact lc_odds C (hok.2.2.2.2.2.2.2.2.2.2.2.2.2.2.2.2.2.2.2.2.2.2.2.1 (xs (j + 1)) (xs (j + 2)) (xs (j + 3)) S T hR) hj7 hl next
  · refine LW.lift (fun _ _ _ k => lv_tableIn (off := 1042) (tgt := 1075) C.1.1 C.1.2.1 dL_law_33 (by rw [hc]; decide) (by rw [hc]; decide) (by rw [hc]; decide) (by decide) k) ?_
    exact lc_sheet C (hok.2.2.2.2.2.2.2.2.2.2.2.2.2.2.2.2.2.2.2.2.2.2.2.2.1 (xs (j + 1)) (xs (j + 2)) (xs (j + 3)) S T hR) hj7 hl next
  · refine LW.lift (fun _ _ _ k => lv_tableIn (off := 1085) (tgt := 1118) C.1.1 C.1.2.1 dL_law_33 (by rw [hc]; decide) (by rw [hc]; decide) (by rw [hc]; decide) (by decide) k) ?_
    exact lc_lose C (hok.2.2.2.2.2.2.2.2.2.2.2.2.2.2.2.2.2.2.2.2.2.2.2.2.2.1 (xs (j + 1)) S T hR) hj7 hl next
  · refine LW.lift (fun _ _ _ k => lv_tableIn (off := 1108) (tgt := 1141) C.1.1 C.1.2.1 dL_law_33 (by rw [hc]; decide) (by rw [hc]; decide) (by rw [hc]; decide) (by decide) k) ?_
    exact lc_put C (hok.2.2.2.2.2.2.2.2.2.2.2.2.2.2.2.2.2.2.2.2.2.2.2.2.2.2.1 (xs (j + 1)) (xs (j + 2)) (xs (j + 3)) S T hR) hj7 hl next
  · refine LW.lift (fun _ _ _ k => lv_tableIn (off := 1151) (tgt := 1184) C.1.1 C.1.2.1 dL_law_33 (by rw [hc]; decide) (by rw [hc]; decide) (by rw [hc]; decide) (by decide) k) ?_
    exact lc_cell C (hok.2.2.2.2.2.2.2.2.2.2.2.2.2.2.2.2.2.2.2.2.2.2.2.2.2.2.2.1 (xs (j + 1)) (xs (j + 2)) (xs (j + 3)) S T hR) hj7 hl next
  · refine LW.lift (fun _ _ _ k => lv_tableIn (off := 1195) (tgt := 1228) C.1.1 C.1.2.1 dL_law_33 (by rw [hc]; decide) (by rw [hc]; decide) (by rw [hc]; decide) (by decide) k) ?_
    exact lc_copy C (hok.2.2.2.2.2.2.2.2.2.2.2.2.2.2.2.2.2.2.2.2.2.2.2.2.2.2.2.2.1 (xs (j + 1)) (xs (j + 2)) (xs (j + 3)) (xs (j + 4)) (xs (j + 5)) S T hR) hj7 hl next
  · refine LW.lift (fun _ _ _ k => lv_tableIn (off := 1258) (tgt := 1291) C.1.1 C.1.2.1 dL_law_33 (by rw [hc]; decide) (by rw [hc]; decide) (by rw [hc]; decide) (by decide) k) ?_
    exact lc_tell C (hok.2.2.2.2.2.2.2.2.2.2.2.2.2.2.2.2.2.2.2.2.2.2.2.2.2.2.2.2.2.1 (xs (j + 1)) S T hR) hj7 hl next
  · refine LW.lift (fun _ _ _ k => lv_tableIn (off := 1281) (tgt := 1314) C.1.1 C.1.2.1 dL_law_33 (by rw [hc]; decide) (by rw [hc]; decide) (by rw [hc]; decide) (by decide) k) ?_
    exact lc_hear C (hok.2.2.2.2.2.2.2.2.2.2.2.2.2.2.2.2.2.2.2.2.2.2.2.2.2.2.2.2.2.2.1 (xs (j + 1)) S T hR) hj7 hl next
  · refine LW.lift (fun _ _ _ k => lv_tableIn (off := 1304) (tgt := 1337) C.1.1 C.1.2.1 dL_law_33 (by rw [hc]; decide) (by rw [hc]; decide) (by rw [hc]; decide) (by decide) k) ?_
    exact lc_as C (hok.2.2.2.2.2.2.2.2.2.2.2.2.2.2.2.2.2.2.2.2.2.2.2.2.2.2.2.2.2.2.2.1 (xs (j + 1)) (xs (j + 2)) S T hR) hj7 hl next
  · refine LW.lift (fun _ _ _ k => lv_tableIn (off := 1337) (tgt := 1370) C.1.1 C.1.2.1 dL_law_33 (by rw [hc]; decide) (by rw [hc]; decide) (by rw [hc]; decide) (by decide) k) ?_
    exact lc_trace C (hok.2.2.2.2.2.2.2.2.2.2.2.2.2.2.2.2.2.2.2.2.2.2.2.2.2.2.2.2.2.2.2.2.1  S T hR) hj7 hl next
  · refine LW.lift (fun _ _ _ k => lv_tableIn (off := 1350) (tgt := 1383) C.1.1 C.1.2.1 dL_law_33 (by rw [hc]; decide) (by rw [hc]; decide) (by rw [hc]; decide) (by decide) k) ?_
    exact lc_fault C (hok.2.2.2.2.2.2.2.2.2.2.2.2.2.2.2.2.2.2.2.2.2.2.2.2.2.2.2.2.2.2.2.2.2.1  S T hR) hj7 hl next
  · refine LW.lift (fun _ _ _ k => lv_tableIn (off := 1363) (tgt := 1396) C.1.1 C.1.2.1 dL_law_33 (by rw [hc]; decide) (by rw [hc]; decide) (by rw [hc]; decide) (by decide) k) ?_
    exact lc_many C (hok.2.2.2.2.2.2.2.2.2.2.2.2.2.2.2.2.2.2.2.2.2.2.2.2.2.2.2.2.2.2.2.2.2.2 (xs (j + 1)) S T hR) hj7 hl next
  · refine LW.lift (fun _ _ _ k => lv_tableOut (tgt := 1419) C.1.1 C.1.2.1 dL_law_33 hc (by decide) k) ?_
    exact next S T hR
theorem law_cmp (j : Nat) (hj : j ≤ L + 7) (hL : L ≤ 448) : (nI L - 7 < nI j) ↔ ¬ (j + 7 ≤ L) := by
  rw [Int32.lt_iff_toInt_lt]
  have e1 : (nI L - 7).toInt = (L : Int) - 7 := pk_sub_toInt (a := L) (b := 7) (by omega) (by decide)
  rw [e1, nI_toInt (by omega)]
  omega
theorem law_head (C : CLw ad ad2 cI D tS p s m meth c b L xs) {j : Nat} (hl : lv_has ls 4 [(0, .ref b), (1, .ref (ad 0)), (2, .ref (ad2 0)), (3, .int (nI j))]) (kt : nI L - 7 < nI j → LW ad ad2 cI D p l e s m below meth c b S T (F0 m 1425 ls [])) (kf : ¬ nI L - 7 < nI j → LW ad ad2 cI D p l e s m below meth c b S T (F0 m 27 ls [])) : LW ad ad2 cI D p l e s m below meth c b S T (F0 m 18 ls []) := by
  refine l_iload C dL_law_18 rfl (lv_at hl 3 rfl) ?_
  refine l_aload C dL_law_19 rfl (lv_at hl 0 rfl) ?_
  intro H locs hP hS
  refine va_slen C.1.1 C.1.2.1 C.2.2.2.1.1 C.2.2.2.1.2 (Nat.not_le.mpr C.2.2.2.1.2) hS dL_law_20 ?_
  refine lv_bipush (v := 7) C.1.1 C.1.2.1 dL_law_21 (by decide) ?_
  refine lv_isub C.1.1 C.1.2.1 dL_law_23 ?_
  exact lv_icmp_gt (tgt := 1425) C.1.1 C.1.2.1 dL_law_24 (by decide) (fun h => kt h H locs hP hS) (fun h => kf h H locs hP hS)
theorem law_go (C : CLw ad ad2 cI D tS p s m meth c b L xs) {j : Nat} (hj : j + 7 ≤ L) (hl : lv_has ls 4 [(0, .ref b), (1, .ref (ad 0)), (2, .ref (ad2 0)), (3, .int (nI j))]) (k : LW ad ad2 cI D p l e s m below meth c b S T (F0 m 27 ls [])) : LW ad ad2 cI D p l e s m below meth c b S T (F0 m 18 ls []) := law_head C hl (fun h => absurd hj ((law_cmp j (by omega) C.2.2.2.2.1).mp h)) (fun _ => k)
theorem law_end (C : CLw ad ad2 cI D tS p s m meth c b L xs) {j : Nat} (h1 : ¬ j + 7 ≤ L) (hj : j ≤ L + 7) (hl : lv_has ls 4 [(0, .ref b), (1, .ref (ad 0)), (2, .ref (ad2 0)), (3, .int (nI j))]) : LW ad ad2 cI D p l e s m below meth c b S T (F0 m 18 ls []) := by
  refine law_head C hl (fun _ => ?_) (fun h => absurd ((law_cmp j hj C.2.2.2.2.1).mpr h1) h)
  intro H locs hP hS
  refine lv_iconst (v := 1) C.1.1 C.1.2.1 dL_law_1425 (by decide) ?_
  refine va_forget hS.2.2 ?_
  refine W.widen (k := 600000) (n := 7302250) (Nat.le_of_ble_eq_true rfl) (Nat.le_of_ble_eq_true rfl) ?_
  exact lw_ret C.1.1 C.1.2.1 C.2.2.2.2.2.2 C.2.2.2.2.2.1 dL_law_1426
set_option maxHeartbeats 4000000 in
theorem law_loop {R : Sto → Sto → Prop} (hok : AllOk R) (C : CLw ad ad2 cI D tS p s m meth c b L xs) : ∀ (n j : Nat) (S T : Sto) (ls : Array Slot), L < j + n → j ≤ L + 7 → R S T → lv_has ls 4 [(0, .ref b), (1, .ref (ad 0)), (2, .ref (ad2 0)), (3, .int (nI j))] → LW ad ad2 cI D p l e s m below meth c b S T (F0 m 18 ls []) := by
  intro n
  induction n with
  | zero =>
    intro j S T ls h1 h2 hR hl
    exact law_end C (by omega) h2 hl
  | succ n ih =>
    intro j S T ls h1 h2 hR hl
    by_cases hj : j + 7 ≤ L
    · refine law_go C hj hl ?_
      refine law_case hok C hR hj hl (fun S1 T1 hR1 => ?_)
      intro H locs hP hS
      refine lv_iinc (k := 3) (v := nI (j + 7)) (lv' := [(3, .int (nI (j + 7))), (0, .ref b), (1, .ref (ad 0)), (2, .ref (ad2 0))]) C.1.1 C.1.2.1 dL_law_1419 hl rfl (nI_off j 7 rfl) (by decide) rfl (fun ls hl => ?_)
      refine lv_goto (tgt := 18) C.1.1 C.1.2.1 dL_law_1422 (by decide) ?_
      exact ih (j + 7) S1 T1 ls (by omega) (by omega) hR1 (lv_sub hl [1, 2, 3, 0] rfl) H locs hP hS
    · exact law_end C (by omega) h2 hl
end LWS
theorem map_at {n : Nat} {ad : Nat → Nat} {ws : va_W} (h : ws.map (fun q => q.1) = (List.range n).map ad) {k : Nat} (hk : k < n) : ∃ q, ws[k]? = some q ∧ q.1 = ad k := by
  have h1 : (ws.map (fun q => q.1))[k]? = some (ad k) := by rw [h, List.getElem?_map, List.getElem?_range hk]; rfl
  rw [List.getElem?_map] at h1
  cases hq : ws[k]? with
  | none => rw [hq] at h1; cases h1
  | some q => rw [hq] at h1; exact ⟨q, rfl, Option.some.inj h1⟩
theorem len_of {n : Nat} {ad : Nat → Nat} {ws : va_W} (h : ws.map (fun q => q.1) = (List.range n).map ad) : ws.length = n := by
  have h1 := congrArg List.length h
  simpa using h1
theorem apart_of {ad ad2 : Nat → Nat} {s : State} {a b : va_W} (hD : va_D (AL s) (a ++ b)) (ha : a.map (fun q => q.1) = (List.range 49).map ad) (hb : b.map (fun q => q.1) = (List.range 26).map ad2) : Apart ad ad2 s.heap.size := by
  have la : a.length = 49 := len_of ha
  have gl : ∀ i, i < 49 → ∃ q, (a ++ b)[i]? = some q ∧ q.1 = ad i := fun i hi => by
    obtain ⟨q, h1, h2⟩ := map_at ha hi
    exact ⟨q, by rw [List.getElem?_append_left (by omega)]; exact h1, h2⟩
  have gr : ∀ i, i < 26 → ∃ q, (a ++ b)[49 + i]? = some q ∧ q.1 = ad2 i := fun i hi => by
    obtain ⟨q, h1, h2⟩ := map_at hb hi
    exact ⟨q, by rw [List.getElem?_append_right (by omega), la, Nat.add_sub_cancel_left]; exact h1, h2⟩
  refine ⟨fun i j hi hj he => ?_, fun i j hi hj he => ?_, fun i j hi hj he => ?_, fun i hi => ?_, fun i hi => ?_⟩
  · obtain ⟨p, p1, p2⟩ := gl i hi
    obtain ⟨q, q1, q2⟩ := gl j hj
    exact hD.1 i j p q p1 q1 (by rw [p2, q2]; exact he)
  · obtain ⟨p, p1, p2⟩ := gr i hi
    obtain ⟨q, q1, q2⟩ := gr j hj
    have := hD.1 _ _ p q p1 q1 (by rw [p2, q2]; exact he)
    omega
  · obtain ⟨p, p1, p2⟩ := gl i hi
    obtain ⟨q, q1, q2⟩ := gr j hj
    have := hD.1 _ _ p q p1 q1 (by rw [p2, q2]; exact he)
    omega
  · obtain ⟨p, p1, p2⟩ := gl i hi
    have := hD.2 _ p p1
    rw [p2] at this
    exact this
  · obtain ⟨p, p1, p2⟩ := gr i hi
    have := hD.2 _ p p1
    rw [p2] at this
    exact this
theorem kblind8 {D : va_G} {cI : ClassId} {sz : Nat} {ws : va_W} {av : List Value} : FrameBlind (va_Pc av (fun U => U.heap.size = sz ∧ va_P D vwCl ws U.heap ∧ va_K D vwCl [(cI, .int)] U ∧ va_D (fun _ => True) ws ∧ NWc U)) := fun a U g mk q => ⟨q.1, q.2.1, q.2.2.1, va_K.moved (u := U) (U := U.calling g mk a) (Vm.Alike.refl U.vm) q.2.2.2.1, q.2.2.2.2.1, ⟨va_Nw.same rfl rfl q.2.2.2.2.2.1, va_Nw.same rfl rfl q.2.2.2.2.2.2.1, va_Nw.same rfl rfl q.2.2.2.2.2.2.2.1, va_Nw.same rfl rfl q.2.2.2.2.2.2.2.2.1, va_Nw.same rfl rfl q.2.2.2.2.2.2.2.2.2.1, va_Nw.same rfl rfl q.2.2.2.2.2.2.2.2.2.2.1, va_Nw.same rfl rfl q.2.2.2.2.2.2.2.2.2.2.2.1, va_Nw.same rfl rfl q.2.2.2.2.2.2.2.2.2.2.2.2⟩⟩
theorem NWc.go {s U : State} (hW : s.WarmedH U.vm) (h : NWc s) : NWc U := ⟨va_Nw.warmM hW h.1, va_Nw.warmM hW h.2.1, va_Nw.warmM hW h.2.2.1, va_Nw.warmM hW h.2.2.2.1, va_Nw.warmM hW h.2.2.2.2.1, va_Nw.warmM hW h.2.2.2.2.2.1, va_Nw.warmM hW h.2.2.2.2.2.2.1, va_Nw.warmM hW h.2.2.2.2.2.2.2⟩
set_option maxHeartbeats 8000000 in
set_option maxRecDepth 100000 in
theorem start_of {R : Sto → Sto → Prop} (hok : AllOk R) (h0 : R S0 T0) {p : Program} {e : Env} {s : State} {m : MethodId} {below : List Frame} {meth : Method} {c : Code} (l : Launch) {b L : Nat} {xs : Nat → Int32} (hL : L ≤ 448) (C0 : lw_At p s m meth c b L xs) : W p l e room_1 s m #[Value.ref b] below meth c s.heap [] 0 0 (lw_Z below #[Value.ref b] s) (entryFrame m ([Value.ref b] : List Value).toArray 4) := by
  obtain ⟨hx, hb, hr, hml, hown, hts, hX, hbl, hlocks, hgv⟩ := id C0
  have htsB : ∀ w ∈ BG, w.before #[Value.ref b] s = true := fun w hw => hts w (List.mem_filter.mp hw).1
  have hA : ∀ q : Nat, s.heap.size ≤ q → AL s q := fun _ h => h
  have hnA : ∀ a : Nat, a < s.heap.size → ¬ AL s a := fun a h h2 => Nat.not_le.mpr h h2
  obtain ⟨c0, iS0, hKn0⟩ := u_known (C := RX0) (T := TX0) (N := 7) (n := 7) htsB uX0 (htsB _ wd_160)
  obtain ⟨c1, iS1, hKn1⟩ := u_known (C := RX1) (T := TX1) (N := 11) (n := 11) htsB uX1 (htsB _ wd_22)
  obtain ⟨c2, iS2, hKn2⟩ := u_known (C := RX2) (T := TX2) (N := 6) (n := 6) htsB uX2 (htsB _ wd_190)
  obtain ⟨c3, iS3, hKn3⟩ := u_known (C := RX3) (T := TX3) (N := 4) (n := 4) htsB uX3 (htsB _ wd_121)
  obtain ⟨c4, iS4, hKn4⟩ := u_known (C := RX4) (T := TX4) (N := 5) (n := 5) htsB uX4 (htsB _ wd_98)
  obtain ⟨c5, iS5, hKn5⟩ := u_known (C := RX5) (T := TX5) (N := 3) (n := 3) htsB uX5 (htsB _ wd_216)
  obtain ⟨c6, iS6, hKn6⟩ := u_known (C := RX6) (T := TX6) (N := 3) (n := 3) htsB uX6 (htsB _ wd_82)
  obtain ⟨c7, iS7, hKn7⟩ := u_known (C := RX7) (T := TX7) (N := 3) (n := 3) htsB uX7 (htsB _ wd_142)
  obtain ⟨c8, iS8, hKn8⟩ := u_known (C := RX8) (T := TX8) (N := 13) (n := 13) htsB uX8 (htsB _ wd_14)
  obtain ⟨c9, iS9, hKn9⟩ := u_known (C := RX9) (T := TX9) (N := 40) (n := 40) htsB uX9 (htsB _ wd_741)
  obtain ⟨D, hKc⟩ : ∃ D : va_G, ∀ (k : Nat) (q : vw_C), vwCl[k]? = some q → u_Kn s q.1 q.2.1 q.2.2 (D.1 k) (D.2 k) := by
    refine ⟨(fun k => if k = 0 then c0 else if k = 1 then c1 else if k = 2 then c2 else if k = 3 then c3 else if k = 4 then c4 else if k = 5 then c5 else if k = 6 then c6 else if k = 7 then c7 else if k = 8 then c8 else c9, fun k => if k = 0 then iS0 else if k = 1 then iS1 else if k = 2 then iS2 else if k = 3 then iS3 else if k = 4 then iS4 else if k = 5 then iS5 else if k = 6 then iS6 else if k = 7 then iS7 else if k = 8 then iS8 else iS9), ?_⟩
    intro k q hq
    match k, hq with
    | 0, hq => cases hq; exact hKn0
    | 1, hq => cases hq; exact hKn1
    | 2, hq => cases hq; exact hKn2
    | 3, hq => cases hq; exact hKn3
    | 4, hq => cases hq; exact hKn4
    | 5, hq => cases hq; exact hKn5
    | 6, hq => cases hq; exact hKn6
    | 7, hq => cases hq; exact hKn7
    | 8, hq => cases hq; exact hKn8
    | 9, hq => cases hq; exact hKn9
    | k + 10, hq => simp [vwCl] at hq
  obtain ⟨cI, kA, comp, hfind, hkA, hkind⟩ := Cond.arrayClass_spec (htsB _ wd_80)
  have hK : va_K D vwCl [(cI, .int)] s := ⟨hKc, fun k q h => by
    match k, h with
    | 0, h => cases h; exact ⟨fun n z => ⟨fun k h => (by cases h), kA, hkA, comp, hkind⟩, hfind⟩
    | k + 1, h => simp at h⟩
  have hs := flat_of_before _ hgv
  have hlen := va_eqt (hs (Cond.eq (.length (.static "BumpDiary" "STRIDES" "[I")) (.int 5)) (by decide +kernel))
  have he0 := va_eqt (hs (Cond.eq (.elem (.static "BumpDiary" "STRIDES" "[I") (.int 0)) (.int (-1))) (by decide +kernel))
  have he1 := va_eqt (hs (Cond.eq (.elem (.static "BumpDiary" "STRIDES" "[I") (.int 1)) (.int (1))) (by decide +kernel))
  have he2 := va_eqt (hs (Cond.eq (.elem (.static "BumpDiary" "STRIDES" "[I") (.int 2)) (.int (-2))) (by decide +kernel))
  have he3 := va_eqt (hs (Cond.eq (.elem (.static "BumpDiary" "STRIDES" "[I") (.int 3)) (.int (2))) (by decide +kernel))
  have he4 := va_eqt (hs (Cond.eq (.elem (.static "BumpDiary" "STRIDES" "[I") (.int 4)) (.int (0))) (by decide +kernel))
  obtain ⟨tS, htS, hTt⟩ := va_Tof (ty := .int) (N := 5) (f := strF) (by decide) (hs (Cond.arrayOf (.static "BumpDiary" "STRIDES" "[I") .int) (by decide +kernel)) hlen (fun j hj => by rcases (show j = 0 ∨ j = 1 ∨ j = 2 ∨ j = 3 ∨ j = 4 by omega) with rfl | rfl | rfl | rfl | rfl <;> assumption) hnA
  have hZ : va_Z RX8 "STRIDES" "[I" (.ref tS) (AL s) s s.heap := va_Zref (hts (.laysStatic "BumpDiary" "STRIDES" "[I") (List.mem_append_right _ (List.mem_append_right _ (List.mem_append_left _ (List.mem_of_getElem? (l := tables_1_2) (i := 154) rfl))))) (htsB _ wd_1) htS hnA
  have hNWs : NWs s := ⟨va_Nw.of rfl (hts (.methodLinkNest RX1 56 yX8_isMove RX8) (List.mem_append_right _ (List.mem_append_right _ (List.mem_append_left _ (List.mem_of_getElem? (l := tables_1_2) (i := 150) rfl))))), va_Nw.of rfl (hts (.fieldLinkNest RX1 60 RX8 "STRIDES" "[I" RX8) (List.mem_append_right _ (List.mem_append_right _ (List.mem_append_left _ (List.mem_of_getElem? (l := tables_1_2) (i := 153) rfl)))))⟩
  have hNWc : NWc s := ⟨va_Nw.of rfl (hts (.methodLinkNest RX8 11 yX1_init RX8) (List.mem_append_right _ (List.mem_append_left _ (List.mem_of_getElem? (l := tables_1_1) (i := 23) rfl)))), va_Nw.of rfl (hts (.methodLinkNest RX8 23 yX6_init RX8) (List.mem_append_right _ (List.mem_append_left _ (List.mem_of_getElem? (l := tables_1_1) (i := 83) rfl)))), va_Nw.of rfl (hts (.methodLinkNest RX8 30 yX4_init RX8) (List.mem_append_right _ (List.mem_append_left _ (List.mem_of_getElem? (l := tables_1_1) (i := 99) rfl)))), va_Nw.of rfl (hts (.methodLinkNest RX8 37 yX3_init RX8) (List.mem_append_right _ (List.mem_append_left _ (List.mem_of_getElem? (l := tables_1_1) (i := 122) rfl)))), va_Nw.of rfl (hts (.methodLinkNest RX8 44 yX7_init RX8) (List.mem_append_right _ (List.mem_append_left _ (List.mem_of_getElem? (l := tables_1_1) (i := 143) rfl)))), va_Nw.of rfl (hts (.methodLinkNest RX8 54 yX0_init RX8) (List.mem_append_right _ (List.mem_append_left _ (List.mem_of_getElem? (l := tables_1_1) (i := 161) rfl)))), va_Nw.of rfl (hts (.methodLinkNest RX8 61 yX2_init RX8) (List.mem_append_right _ (List.mem_append_left _ (List.mem_of_getElem? (l := tables_1_1) (i := 191) rfl)))), va_Nw.of rfl (hts (.methodLinkNest RX8 68 yX5_init RX8) (List.mem_append_right _ (List.mem_append_left _ (List.mem_of_getElem? (l := tables_1_1) (i := 217) rfl))))⟩
  have hS : va_S (AL s) s.heap s.heap [] := va_S.rf
  have hP : va_P D vwCl [] s.heap := fun k q h => by simp at h
  have hD : va_D (AL s) [] := ⟨fun i j p q h => by simp at h, fun k q h => by simp at h⟩
  have hl := lv_entry ([.ref b]) (n := 4) (Nat.le_of_ble_eq_true rfl)
  rw [lg_entry_eq]
  generalize (lg_sl ([.ref b]) ++ List.replicate (4 - (lg_sl ([.ref b])).length) Slot.unset).toArray = ls at hl ⊢
  have hl : lv_has ls 4 [(0, .ref b)] := hl
  refine va_new (D := D) (ci := 8) (fs := [.null, .null, .null, .null, .null, .null, .null, .null, .null, .null, .null, .int 0, .int 0]) (C := RX8) (T := TX8) (N := 13) hx hb htsB uX8 tyX8 tyX8_ok hown (htsB _ wd_13) (htsB _ wd_14) (htsB _ wd_1) hK hP hD hS hA rfl (fun j hj => by rcases (show j = 0 ∨ j = 1 ∨ j = 2 ∨ j = 3 ∨ j = 4 ∨ j = 5 ∨ j = 6 ∨ j = 7 ∨ j = 8 ∨ j = 9 ∨ j = 10 ∨ j = 11 ∨ j = 12 by omega) with rfl | rfl | rfl | rfl | rfl | rfl | rfl | rfl | rfl | rfl | rfl | rfl | rfl <;> rfl) (Nat.le_of_ble_eq_true rfl) (Nat.le_of_ble_eq_true rfl) dL_law_0 (fun q8 H hP hD hS => ?_)
  have hP : va_P D vwCl [(q8, .inr (8, [.null, .null, .null, .null, .null, .null, .null, .null, .null, .null, .null, .int 0, .int 0]))] H := hP
  have hD : va_D (AL s) [(q8, .inr (8, [.null, .null, .null, .null, .null, .null, .null, .null, .null, .null, .null, .int 0, .int 0]))] := hD
  refine lv_dup hx hb dL_law_3 rfl ?_
  have hPc := hP.sub (ws' := [(q8, .inr (8, [.null, .null, .null, .null, .null, .null, .null, .null, .null, .null, .null, .int 0, .int 0]))]) [0] rfl
  have hDc := hD.sub (ws' := [(q8, .inr (8, [.null, .null, .null, .null, .null, .null, .null, .null, .null, .null, .null, .int 0, .int 0]))]) [0] (by decide) rfl
  have hFc := va_free (wc := [(q8, .inr (8, [.null, .null, .null, .null, .null, .null, .null, .null, .null, .null, .null, .int 0, .int 0]))]) hD hS hA [0] rfl
  refine va_callv (va_runI (n := 0) (As := []) (rest := [.ref q8]) ⟨hx, hb, hml, hown, htsB⟩ (k_X8 l D cI q8 H.size) (cwI 0 htsB (bg_good (fun w hw => (List.mem_cons.mp hw).elim (fun h => h ▸ wd_17) id)) rfl rfl rfl (htsB _ wd_1) (htsB _ wd_15) (htsB _ wd_16) rfl (by decide +kernel) ⟨Nat.le_of_ble_eq_true rfl, Nat.le_of_ble_eq_true rfl⟩) ⟨kblind8, fun U hU hW => ⟨rfl, by rw [hU], by rw [hU]; exact hPc, va_K.moved hW.alike hK, hDc.weaken (fun _ _ _ _ => trivial), NWc.go hW hNWc⟩⟩ rfl rfl hl.1 rfl (lv_room (Nat.le_of_ble_eq_true rfl)) dL_law_4 ⟨Nat.le_of_ble_eq_true rfl, Nat.le_of_ble_eq_true rfl⟩) hS (fun q _ h => hFc q h) hFc (fun ad t H1 locs ht hvm hw hB hz1 hk1 hS => ?_)
  obtain ⟨hP1, hK1, hD1⟩ := hB
  rw [ht] at hP1
  have ead : ad 0 = q8 := hw
  obtain ⟨hP, hD⟩ := va_join (wr := []) (w1 := cw ad cI S0) hP hD [0] [] rfl rfl (by decide) (by decide) hk1 hFc hP1 hD1
  generalize H1 = H at hP hS ⊢
  have hP : va_P D vwCl (cw ad cI S0) H := hP
  have hD : va_D (AL s) (cw ad cI S0) := hD
  refine lv_astore_n (lv' := [(1, .ref q8), (0, .ref b)]) hx hb dL_law_7 rfl hl (by decide) rfl (fun ls hl => ?_)
  refine va_new (D := D) (ci := 9) (fs := [.int 0, .int 0, .null, .null, .null, .int 0, .int 0, .int 0, .int 0, .null, .null, .null, .null, .null, .null, .null, .int 0, .int 0, .int 0, .int 0, .int 0, .null, .null, .null, .null, .null, .null, .null, .null, .int 0, .int 0, .null, .int 0, .null, .null, .int 0, .null, .null, .null, .null]) (C := RX9) (T := TX9) (N := 40) hx hb htsB uX9 tyX9 tyX9_ok hown (htsB _ wd_740) (htsB _ wd_741) (htsB _ wd_10) hK hP hD hS hA rfl (fun j hj => by rcases (show j = 0 ∨ j = 1 ∨ j = 2 ∨ j = 3 ∨ j = 4 ∨ j = 5 ∨ j = 6 ∨ j = 7 ∨ j = 8 ∨ j = 9 ∨ j = 10 ∨ j = 11 ∨ j = 12 ∨ j = 13 ∨ j = 14 ∨ j = 15 ∨ j = 16 ∨ j = 17 ∨ j = 18 ∨ j = 19 ∨ j = 20 ∨ j = 21 ∨ j = 22 ∨ j = 23 ∨ j = 24 ∨ j = 25 ∨ j = 26 ∨ j = 27 ∨ j = 28 ∨ j = 29 ∨ j = 30 ∨ j = 31 ∨ j = 32 ∨ j = 33 ∨ j = 34 ∨ j = 35 ∨ j = 36 ∨ j = 37 ∨ j = 38 ∨ j = 39 by omega) with rfl | rfl | rfl | rfl | rfl | rfl | rfl | rfl | rfl | rfl | rfl | rfl | rfl | rfl | rfl | rfl | rfl | rfl | rfl | rfl | rfl | rfl | rfl | rfl | rfl | rfl | rfl | rfl | rfl | rfl | rfl | rfl | rfl | rfl | rfl | rfl | rfl | rfl | rfl | rfl <;> rfl) (Nat.le_of_ble_eq_true rfl) (Nat.le_of_ble_eq_true rfl) dL_law_8 (fun q9 H hP hD hS => ?_)
  refine lv_dup hx hb dL_law_11 rfl ?_
  have hPc := hP.sub (ws' := [(q9, .inr (9, [.int 0, .int 0, .null, .null, .null, .int 0, .int 0, .int 0, .int 0, .null, .null, .null, .null, .null, .null, .null, .int 0, .int 0, .int 0, .int 0, .int 0, .null, .null, .null, .null, .null, .null, .null, .null, .int 0, .int 0, .null, .int 0, .null, .null, .int 0, .null, .null, .null, .null]))]) [49] rfl
  have hDc := hD.sub (ws' := [(q9, .inr (9, [.int 0, .int 0, .null, .null, .null, .int 0, .int 0, .int 0, .int 0, .null, .null, .null, .null, .null, .null, .null, .int 0, .int 0, .int 0, .int 0, .int 0, .null, .null, .null, .null, .null, .null, .null, .null, .int 0, .int 0, .null, .int 0, .null, .null, .int 0, .null, .null, .null, .null]))]) [49] (by decide) rfl
  have hFc := va_free (wc := [(q9, .inr (9, [.int 0, .int 0, .null, .null, .null, .int 0, .int 0, .int 0, .int 0, .null, .null, .null, .null, .null, .null, .null, .int 0, .int 0, .int 0, .int 0, .int 0, .null, .null, .null, .null, .null, .null, .null, .null, .int 0, .int 0, .null, .int 0, .null, .null, .int 0, .null, .null, .null, .null]))]) hD hS hA [49] rfl
  refine va_callv (va_runI (n := 0) (As := []) (rest := [.ref q9]) ⟨hx, hb, hml, hown, htsB⟩ (k_X9 l D cI q9 H.size) (cwI 0 htsB (bg_good (fun w hw => (List.mem_cons.mp hw).elim (fun h => h ▸ wd_744) id)) rfl rfl rfl (htsB _ wd_10) (htsB _ wd_742) (htsB _ wd_743) rfl (by decide +kernel) ⟨Nat.le_of_ble_eq_true rfl, Nat.le_of_ble_eq_true rfl⟩) ⟨kblind, fun U hU hW => ⟨rfl, by rw [hU], by rw [hU]; exact hPc, va_K.moved hW.alike hK, hDc.weaken (fun _ _ _ _ => trivial)⟩⟩ rfl rfl hl.1 rfl (lv_room (Nat.le_of_ble_eq_true rfl)) dL_law_12 ⟨Nat.le_of_ble_eq_true rfl, Nat.le_of_ble_eq_true rfl⟩) hS (fun q _ h => hFc q h) hFc (fun ad2 t H1 locs ht hvm hw hB hz1 hk1 hS => ?_)
  obtain ⟨hP1, hK1, hD1⟩ := hB
  rw [ht] at hP1
  have ead2 : ad2 0 = q9 := hw
  obtain ⟨hP, hD⟩ := va_join (wr := cw ad cI S0) (w1 := mw ad2 cI T0) hP hD [49] [0, 1, 2, 3, 4, 5, 6, 7, 8, 9, 10, 11, 12, 13, 14, 15, 16, 17, 18, 19, 20, 21, 22, 23, 24, 25, 26, 27, 28, 29, 30, 31, 32, 33, 34, 35, 36, 37, 38, 39, 40, 41, 42, 43, 44, 45, 46, 47, 48] rfl rfl (by decide) (by decide) hk1 hFc hP1 hD1
  generalize H1 = H at hP hS ⊢
  refine lv_astore_n (lv' := [(2, .ref q9), (1, .ref q8), (0, .ref b)]) hx hb dL_law_15 rfl hl (by decide) rfl (fun ls hl => ?_)
  refine lv_iconst (v := 0) hx hb dL_law_16 (by decide) ?_
  refine lv_istore_n (lv' := [(3, .int 0), (2, .ref q9), (1, .ref q8), (0, .ref b)]) hx hb dL_law_17 rfl hl (by decide) rfl (fun ls hl => ?_)
  refine W.widen (k := 75) (n := 1049) (Nat.le_of_ble_eq_true rfl) (Nat.le_of_ble_eq_true rfl) ?_
  have hap := apart_of hD (cw_ads ad cI S0) (mw_ads ad2 cI T0)
  have hPz : va_P D vwCl (cw ad cI S0 ++ mw ad2 cI T0) H := hP
  have hSz := hS
  subst ead; subst ead2
  have C : CLw ad ad2 cI D tS p s m meth c b L xs := ⟨⟨hx, hb, hml, hown, htsB⟩, ⟨hK, hNWs, hZ, hTt⟩, hap, ⟨hX, hbl⟩, hL, hlocks, hr⟩
  exact law_loop hok C (L + 1) 0 S0 T0 ls (by omega) (by omega) h0 (lv_sub hl [3, 2, 1, 0] rfl) H _ hPz hSz
