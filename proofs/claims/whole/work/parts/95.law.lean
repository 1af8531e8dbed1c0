/-! THE CLAIM OUT OF ONE WALK OF THE LAW'S BODY. Your part is whole_start (and what it stands on); all else here is the same for every law, but numbers. -/
def R_law : String := "ButlerWeatherLaw"
def lw_P (b : Addr) (xs : List Int32) (args : Array Value) (s : State) : Prop := args = #[.ref b] ∧ s.IntsAt b xs ∧ xs.length ≤ 384 ∧ (Jvm.Cond.and given_1 narrow_1).before args s = true
def lw_Q (_ : Array Value) (s : State) (o : Outcome) (t : State) : Prop := o = .returned (some (.int 1)) ∧ Framed s o t [] 600000 7302250
def lw_Z (below : List Frame) (a : Array Value) (s : State) : State → Prop := fun t => ∃ o, t.status = .running ∧ Ended t below o ∧ lw_Q a s o t
/-- the law's own end, with 1 on the stack, nothing written that was there before, its room as the claim has it -/
theorem lw_ret {p : Program} {l : Launch} {e : Env} {s : State} {m : MethodId} {below : List Frame} {meth : Method} {c : Code} {b : Nat} (hx : p.tables.exec = Jvm.exec) (hb : c.code = code) (hr : meth.sig.returnType = ret) (hlocks : meth.locks = false) {pc : Nat} {H : Heap} {ls : Array Slot} (hdg : decode code pc = .ok (.ireturn, 1)) : W p l e room_1 s m #[Value.ref b] below meth c H [] 600000 7302250 (lw_Z below #[Value.ref b] s) (F0 m pc ls [.int 1]) := by
  intro T hT X
  obtain ⟨fs, hret, hrun, hended, hW, hframe⟩ := X.leave (v := some (.int 1)) (hlocks := hlocks) (fun h => by rw [hr] at h; cases h)
  have hmeth' : T.vm.method? m = some meth := X.method'
  refine ⟨T.setFrames fs, ?_, .returned (some (.int 1)), hrun, hended, rfl, ⟨_, rfl⟩, hW, hframe⟩
  jvm_step X.here [X.here.top, hx, hb, hdg, hmeth', hr, ret, narrow_b1]
  (try refine ⟨rfl, ?_⟩); (try refine ⟨rfl, ?_⟩)
  first | (intro acts; rw [hret _ acts rfl rfl rfl]) | rw [hret _ _ rfl rfl rfl]
  exact Steps.refl _
/-- what holds at the law's entry: the machine, the code, the tables' words (any of lw_tbl by 'hts w (by decide +kernel)'), the script of L ints xs at the cell b, what the Statement gives of the start (any of its parts by flat_of_before) -/
def lw_At (p : Program) (s : State) (m : MethodId) (meth : Method) (c : Code) (b L : Nat) (xs : Nat → Int32) : Prop :=
  p.tables.exec = Jvm.exec ∧ c.code = code ∧ meth.sig.returnType = ret ∧ c.maxLocals = 4 ∧ s.vm.findClass R_law = some m.cls ∧ (∀ w ∈ lw_tbl, w.before #[Value.ref b] s = true) ∧ va_X b L xs s s.heap ∧ b < s.heap.size ∧ meth.locks = false ∧ (Jvm.Cond.and given_1 narrow_1).before #[Value.ref b] s = true
theorem kw_83 : (.classLink "ButlerWeatherLaw" 7 "ButlerWeather" : Cond) ∈ GT := gt_at 83 (by decide +kernel) (by decide +kernel)
theorem kw_84 : (.instantiable "ButlerWeather" 9 : Cond) ∈ GT := gt_at 84 (by decide +kernel) (by decide +kernel)
theorem kw_85 : (.methodLink "ButlerWeatherLaw" 9 yX6_init : Cond) ∈ GT := gt_at 85 (by decide +kernel) (by decide +kernel)
theorem kw_86 : (.instanceMethod yX6_init : Cond) ∈ GT := gt_at 86 (by decide +kernel) (by decide +kernel)
theorem kw_87 : (.code yX6_init cX6_init 2 none : Cond) ∈ GT := gt_at 87 (by decide +kernel) (by decide +kernel)
theorem kw_282 : (.methodLink "ButlerWeatherLaw" 13 yX6_type : Cond) ∈ GT := gt_at 282 (by decide +kernel) (by decide +kernel)
theorem kw_283 : (.instanceMethod yX6_type : Cond) ∈ GT := gt_at 283 (by decide +kernel) (by decide +kernel)
theorem kw_284 : (.selects "ButlerWeather" yX6_type yX6_type : Cond) ∈ GT := gt_at 284 (by decide +kernel) (by decide +kernel)
theorem kw_285 : (.code yX6_type cX6_type 3 (some .int) : Cond) ∈ GT := gt_at 285 (by decide +kernel) (by decide +kernel)
theorem kw_301 : (.methodLink "ButlerWeatherLaw" 18 yX6_wipe : Cond) ∈ GT := gt_at 301 (by decide +kernel) (by decide +kernel)
theorem kw_302 : (.instanceMethod yX6_wipe : Cond) ∈ GT := gt_at 302 (by decide +kernel) (by decide +kernel)
theorem kw_303 : (.selects "ButlerWeather" yX6_wipe yX6_wipe : Cond) ∈ GT := gt_at 303 (by decide +kernel) (by decide +kernel)
theorem kw_304 : (.code yX6_wipe cX6_wipe 2 (some .int) : Cond) ∈ GT := gt_at 304 (by decide +kernel) (by decide +kernel)
theorem kw_309 : (.methodLink "ButlerWeatherLaw" 23 yX6_undo : Cond) ∈ GT := gt_at 309 (by decide +kernel) (by decide +kernel)
theorem kw_310 : (.instanceMethod yX6_undo : Cond) ∈ GT := gt_at 310 (by decide +kernel) (by decide +kernel)
theorem kw_311 : (.selects "ButlerWeather" yX6_undo yX6_undo : Cond) ∈ GT := gt_at 311 (by decide +kernel) (by decide +kernel)
theorem kw_312 : (.code yX6_undo cX6_undo 2 (some .int) : Cond) ∈ GT := gt_at 312 (by decide +kernel) (by decide +kernel)
theorem kw_317 : (.methodLink "ButlerWeatherLaw" 27 yX6_fault : Cond) ∈ GT := gt_at 317 (by decide +kernel) (by decide +kernel)
theorem kw_328 : (.methodLink "ButlerWeatherLaw" 31 yX6_caller : Cond) ∈ GT := gt_at 328 (by decide +kernel) (by decide +kernel)
theorem kw_410 : (.methodLink "ButlerWeatherLaw" 35 yX6_man : Cond) ∈ GT := gt_at 410 (by decide +kernel) (by decide +kernel)
theorem kw_418 : (.methodLink "ButlerWeatherLaw" 39 yX6_card : Cond) ∈ GT := gt_at 418 (by decide +kernel) (by decide +kernel)
theorem kw_419 : (.instanceMethod yX6_card : Cond) ∈ GT := gt_at 419 (by decide +kernel) (by decide +kernel)
theorem kw_420 : (.selects "ButlerWeather" yX6_card yX6_card : Cond) ∈ GT := gt_at 420 (by decide +kernel) (by decide +kernel)
theorem kw_421 : (.code yX6_card cX6_card 3 (some .int) : Cond) ∈ GT := gt_at 421 (by decide +kernel) (by decide +kernel)
theorem kw_433 : (.methodLink "ButlerWeatherLaw" 43 yX6_back : Cond) ∈ GT := gt_at 433 (by decide +kernel) (by decide +kernel)
theorem kw_434 : (.instanceMethod yX6_back : Cond) ∈ GT := gt_at 434 (by decide +kernel) (by decide +kernel)
theorem kw_435 : (.selects "ButlerWeather" yX6_back yX6_back : Cond) ∈ GT := gt_at 435 (by decide +kernel) (by decide +kernel)
theorem kw_436 : (.code yX6_back cX6_back 1 (some .int) : Cond) ∈ GT := gt_at 436 (by decide +kernel) (by decide +kernel)
theorem kw_441 : (.methodLink "ButlerWeatherLaw" 48 yX6_read : Cond) ∈ GT := gt_at 441 (by decide +kernel) (by decide +kernel)
theorem kw_442 : (.instanceMethod yX6_read : Cond) ∈ GT := gt_at 442 (by decide +kernel) (by decide +kernel)
theorem kw_443 : (.selects "ButlerWeather" yX6_read yX6_read : Cond) ∈ GT := gt_at 443 (by decide +kernel) (by decide +kernel)
theorem kw_444 : (.code yX6_read cX6_read 4 (some .int) : Cond) ∈ GT := gt_at 444 (by decide +kernel) (by decide +kernel)
theorem kw_456 : (.methodLink "ButlerWeatherLaw" 52 yX6_stands : Cond) ∈ GT := gt_at 456 (by decide +kernel) (by decide +kernel)
theorem kw_468 : (.methodLink "ButlerWeatherLaw" 56 yX6_name : Cond) ∈ GT := gt_at 468 (by decide +kernel) (by decide +kernel)
theorem kw_472 : (.methodLink "ButlerWeatherLaw" 60 yX6_door : Cond) ∈ GT := gt_at 472 (by decide +kernel) (by decide +kernel)
theorem kw_486 : (.methodLink "ButlerWeatherLaw" 64 yX6_warmth : Cond) ∈ GT := gt_at 486 (by decide +kernel) (by decide +kernel)
theorem kw_501 : (.methodLink "ButlerWeatherLaw" 68 yX6_coldest : Cond) ∈ GT := gt_at 501 (by decide +kernel) (by decide +kernel)
theorem kw_505 : (.methodLink "ButlerWeatherLaw" 72 yX6_first : Cond) ∈ GT := gt_at 505 (by decide +kernel) (by decide +kernel)
theorem kw_513 : (.methodLink "ButlerWeatherLaw" 76 yX6_sent : Cond) ∈ GT := gt_at 513 (by decide +kernel) (by decide +kernel)
theorem kw_525 : (.methodLink "ButlerWeatherLaw" 80 yX6_wrong : Cond) ∈ GT := gt_at 525 (by decide +kernel) (by decide +kernel)
theorem kw_533 : (.methodLink "ButlerWeatherLaw" 84 yX6_sum : Cond) ∈ GT := gt_at 533 (by decide +kernel) (by decide +kernel)
theorem kw_541 : (.methodLink "ButlerWeatherLaw" 88 yX6_leave : Cond) ∈ GT := gt_at 541 (by decide +kernel) (by decide +kernel)
theorem kw_551 : (.methodLink "ButlerWeatherLaw" 92 yX6_begin : Cond) ∈ GT := gt_at 551 (by decide +kernel) (by decide +kernel)
theorem kw_565 : (.methodLink "ButlerWeatherLaw" 96 yX6_patience : Cond) ∈ GT := gt_at 565 (by decide +kernel) (by decide +kernel)
theorem kw_569 : (.methodLink "ButlerWeatherLaw" 100 yX6_burn : Cond) ∈ GT := gt_at 569 (by decide +kernel) (by decide +kernel)
theorem kw_588 : (.methodLink "ButlerWeatherLaw" 104 yX6_feel : Cond) ∈ GT := gt_at 588 (by decide +kernel) (by decide +kernel)
theorem kw_589 : (.instanceMethod yX6_feel : Cond) ∈ GT := gt_at 589 (by decide +kernel) (by decide +kernel)
theorem kw_590 : (.selects "ButlerWeather" yX6_feel yX6_feel : Cond) ∈ GT := gt_at 590 (by decide +kernel) (by decide +kernel)
theorem kw_591 : (.code yX6_feel cX6_feel 3 (some .int) : Cond) ∈ GT := gt_at 591 (by decide +kernel) (by decide +kernel)
theorem kw_596 : (.methodLink "ButlerWeatherLaw" 108 yX6_forget : Cond) ∈ GT := gt_at 596 (by decide +kernel) (by decide +kernel)
theorem kw_597 : (.instanceMethod yX6_forget : Cond) ∈ GT := gt_at 597 (by decide +kernel) (by decide +kernel)
theorem kw_598 : (.selects "ButlerWeather" yX6_forget yX6_forget : Cond) ∈ GT := gt_at 598 (by decide +kernel) (by decide +kernel)
theorem kw_599 : (.code yX6_forget cX6_forget 1 (some .int) : Cond) ∈ GT := gt_at 599 (by decide +kernel) (by decide +kernel)
theorem kw_604 : (.methodLink "ButlerWeatherLaw" 112 yX6_never : Cond) ∈ GT := gt_at 604 (by decide +kernel) (by decide +kernel)
theorem kw_613 : (.methodLink "ButlerWeatherLaw" 116 yX6_was : Cond) ∈ GT := gt_at 613 (by decide +kernel) (by decide +kernel)
theorem kw_625 : (.methodLink "ButlerWeatherLaw" 120 yX6_ask : Cond) ∈ GT := gt_at 625 (by decide +kernel) (by decide +kernel)
theorem kw_643 : (.methodLink "ButlerWeatherLaw" 124 yX6_chance : Cond) ∈ GT := gt_at 643 (by decide +kernel) (by decide +kernel)
theorem kw_663 : (.methodLink "ButlerWeatherLaw" 129 yX6_years : Cond) ∈ GT := gt_at 663 (by decide +kernel) (by decide +kernel)
theorem kw_679 : (.methodLink "ButlerWeatherLaw" 134 yX6_sheet : Cond) ∈ GT := gt_at 679 (by decide +kernel) (by decide +kernel)
theorem kw_680 : (.instanceMethod yX6_sheet : Cond) ∈ GT := gt_at 680 (by decide +kernel) (by decide +kernel)
theorem kw_681 : (.selects "ButlerWeather" yX6_sheet yX6_sheet : Cond) ∈ GT := gt_at 681 (by decide +kernel) (by decide +kernel)
theorem kw_682 : (.code yX6_sheet cX6_sheet 4 (some .int) : Cond) ∈ GT := gt_at 682 (by decide +kernel) (by decide +kernel)
theorem kw_690 : (.methodLink "ButlerWeatherLaw" 138 yX6_lose : Cond) ∈ GT := gt_at 690 (by decide +kernel) (by decide +kernel)
theorem kw_691 : (.instanceMethod yX6_lose : Cond) ∈ GT := gt_at 691 (by decide +kernel) (by decide +kernel)
theorem kw_692 : (.selects "ButlerWeather" yX6_lose yX6_lose : Cond) ∈ GT := gt_at 692 (by decide +kernel) (by decide +kernel)
theorem kw_693 : (.code yX6_lose cX6_lose 2 (some .int) : Cond) ∈ GT := gt_at 693 (by decide +kernel) (by decide +kernel)
theorem kw_698 : (.methodLink "ButlerWeatherLaw" 142 yX6_put : Cond) ∈ GT := gt_at 698 (by decide +kernel) (by decide +kernel)
theorem kw_699 : (.instanceMethod yX6_put : Cond) ∈ GT := gt_at 699 (by decide +kernel) (by decide +kernel)
theorem kw_700 : (.selects "ButlerWeather" yX6_put yX6_put : Cond) ∈ GT := gt_at 700 (by decide +kernel) (by decide +kernel)
theorem kw_701 : (.code yX6_put cX6_put 6 (some .int) : Cond) ∈ GT := gt_at 701 (by decide +kernel) (by decide +kernel)
theorem kw_712 : (.methodLink "ButlerWeatherLaw" 147 yX6_get : Cond) ∈ GT := gt_at 712 (by decide +kernel) (by decide +kernel)
theorem kw_713 : (.instanceMethod yX6_get : Cond) ∈ GT := gt_at 713 (by decide +kernel) (by decide +kernel)
theorem kw_714 : (.selects "ButlerWeather" yX6_get yX6_get : Cond) ∈ GT := gt_at 714 (by decide +kernel) (by decide +kernel)
theorem kw_715 : (.code yX6_get cX6_get 5 (some .int) : Cond) ∈ GT := gt_at 715 (by decide +kernel) (by decide +kernel)
theorem kw_716 : (.methodLink "ButlerWeatherLaw" 151 yX6_copy : Cond) ∈ GT := gt_at 716 (by decide +kernel) (by decide +kernel)
theorem kw_717 : (.instanceMethod yX6_copy : Cond) ∈ GT := gt_at 717 (by decide +kernel) (by decide +kernel)
theorem kw_718 : (.selects "ButlerWeather" yX6_copy yX6_copy : Cond) ∈ GT := gt_at 718 (by decide +kernel) (by decide +kernel)
theorem kw_719 : (.code yX6_copy cX6_copy 8 (some .int) : Cond) ∈ GT := gt_at 719 (by decide +kernel) (by decide +kernel)
theorem kw_727 : (.methodLink "ButlerWeatherLaw" 156 yX6_write : Cond) ∈ GT := gt_at 727 (by decide +kernel) (by decide +kernel)
theorem kw_728 : (.instanceMethod yX6_write : Cond) ∈ GT := gt_at 728 (by decide +kernel) (by decide +kernel)
theorem kw_729 : (.selects "ButlerWeather" yX6_write yX6_write : Cond) ∈ GT := gt_at 729 (by decide +kernel) (by decide +kernel)
theorem kw_730 : (.code yX6_write cX6_write 6 (some .int) : Cond) ∈ GT := gt_at 730 (by decide +kernel) (by decide +kernel)
theorem kw_732 : (.methodLink "ButlerWeatherLaw" 160 yX6_count : Cond) ∈ GT := gt_at 732 (by decide +kernel) (by decide +kernel)
theorem kw_736 : (.methodLink "ButlerWeatherLaw" 164 yX6_digest : Cond) ∈ GT := gt_at 736 (by decide +kernel) (by decide +kernel)
theorem kw_737 : (.instanceMethod yX6_digest : Cond) ∈ GT := gt_at 737 (by decide +kernel) (by decide +kernel)
theorem kw_738 : (.selects "ButlerWeather" yX6_digest yX6_digest : Cond) ∈ GT := gt_at 738 (by decide +kernel) (by decide +kernel)
theorem kw_739 : (.code yX6_digest cX6_digest 4 (some .long) : Cond) ∈ GT := gt_at 739 (by decide +kernel) (by decide +kernel)
theorem kw_776 : (.classLink "ButlerWeatherLaw" 10 "ButlerWeatherModel" : Cond) ∈ GT := gt_at 776 (by decide +kernel) (by decide +kernel)
theorem kw_777 : (.instantiable "ButlerWeatherModel" 38 : Cond) ∈ GT := gt_at 777 (by decide +kernel) (by decide +kernel)
theorem kw_778 : (.methodLink "ButlerWeatherLaw" 12 yX7_init : Cond) ∈ GT := gt_at 778 (by decide +kernel) (by decide +kernel)
theorem kw_779 : (.instanceMethod yX7_init : Cond) ∈ GT := gt_at 779 (by decide +kernel) (by decide +kernel)
theorem kw_780 : (.code yX7_init cX7_init 1 none : Cond) ∈ GT := gt_at 780 (by decide +kernel) (by decide +kernel)
theorem kw_898 : (.methodLink "ButlerWeatherLaw" 17 yX7_type : Cond) ∈ GT := gt_at 898 (by decide +kernel) (by decide +kernel)
theorem kw_899 : (.instanceMethod yX7_type : Cond) ∈ GT := gt_at 899 (by decide +kernel) (by decide +kernel)
theorem kw_900 : (.selects "ButlerWeatherModel" yX7_type yX7_type : Cond) ∈ GT := gt_at 900 (by decide +kernel) (by decide +kernel)
theorem kw_901 : (.code yX7_type cX7_type 3 (some .int) : Cond) ∈ GT := gt_at 901 (by decide +kernel) (by decide +kernel)
theorem kw_908 : (.methodLink "ButlerWeatherLaw" 22 yX7_wipe : Cond) ∈ GT := gt_at 908 (by decide +kernel) (by decide +kernel)
theorem kw_909 : (.instanceMethod yX7_wipe : Cond) ∈ GT := gt_at 909 (by decide +kernel) (by decide +kernel)
theorem kw_910 : (.selects "ButlerWeatherModel" yX7_wipe yX7_wipe : Cond) ∈ GT := gt_at 910 (by decide +kernel) (by decide +kernel)
theorem kw_911 : (.code yX7_wipe cX7_wipe 3 (some .int) : Cond) ∈ GT := gt_at 911 (by decide +kernel) (by decide +kernel)
theorem kw_912 : (.methodLink "ButlerWeatherLaw" 26 yX7_undo : Cond) ∈ GT := gt_at 912 (by decide +kernel) (by decide +kernel)
theorem kw_913 : (.instanceMethod yX7_undo : Cond) ∈ GT := gt_at 913 (by decide +kernel) (by decide +kernel)
theorem kw_914 : (.selects "ButlerWeatherModel" yX7_undo yX7_undo : Cond) ∈ GT := gt_at 914 (by decide +kernel) (by decide +kernel)
theorem kw_915 : (.code yX7_undo cX7_undo 2 (some .int) : Cond) ∈ GT := gt_at 915 (by decide +kernel) (by decide +kernel)
theorem kw_916 : (.methodLink "ButlerWeatherLaw" 30 yX7_fault : Cond) ∈ GT := gt_at 916 (by decide +kernel) (by decide +kernel)
theorem kw_917 : (.instanceMethod yX7_fault : Cond) ∈ GT := gt_at 917 (by decide +kernel) (by decide +kernel)
theorem kw_918 : (.selects "ButlerWeatherModel" yX7_fault yX7_fault : Cond) ∈ GT := gt_at 918 (by decide +kernel) (by decide +kernel)
theorem kw_919 : (.code yX7_fault cX7_fault 2 (some .int) : Cond) ∈ GT := gt_at 919 (by decide +kernel) (by decide +kernel)
theorem kw_943 : (.methodLink "ButlerWeatherLaw" 34 yX7_caller : Cond) ∈ GT := gt_at 943 (by decide +kernel) (by decide +kernel)
theorem kw_944 : (.instanceMethod yX7_caller : Cond) ∈ GT := gt_at 944 (by decide +kernel) (by decide +kernel)
theorem kw_945 : (.selects "ButlerWeatherModel" yX7_caller yX7_caller : Cond) ∈ GT := gt_at 945 (by decide +kernel) (by decide +kernel)
theorem kw_946 : (.code yX7_caller cX7_caller 3 (some .int) : Cond) ∈ GT := gt_at 946 (by decide +kernel) (by decide +kernel)
theorem kw_959 : (.methodLink "ButlerWeatherLaw" 38 yX7_man : Cond) ∈ GT := gt_at 959 (by decide +kernel) (by decide +kernel)
theorem kw_960 : (.instanceMethod yX7_man : Cond) ∈ GT := gt_at 960 (by decide +kernel) (by decide +kernel)
theorem kw_961 : (.selects "ButlerWeatherModel" yX7_man yX7_man : Cond) ∈ GT := gt_at 961 (by decide +kernel) (by decide +kernel)
theorem kw_962 : (.code yX7_man cX7_man 3 (some .int) : Cond) ∈ GT := gt_at 962 (by decide +kernel) (by decide +kernel)
theorem kw_971 : (.methodLink "ButlerWeatherLaw" 42 yX7_card : Cond) ∈ GT := gt_at 971 (by decide +kernel) (by decide +kernel)
theorem kw_978 : (.methodLink "ButlerWeatherLaw" 47 yX7_back : Cond) ∈ GT := gt_at 978 (by decide +kernel) (by decide +kernel)
theorem kw_979 : (.instanceMethod yX7_back : Cond) ∈ GT := gt_at 979 (by decide +kernel) (by decide +kernel)
theorem kw_980 : (.selects "ButlerWeatherModel" yX7_back yX7_back : Cond) ∈ GT := gt_at 980 (by decide +kernel) (by decide +kernel)
theorem kw_981 : (.code yX7_back cX7_back 1 (some .int) : Cond) ∈ GT := gt_at 981 (by decide +kernel) (by decide +kernel)
theorem kw_982 : (.methodLink "ButlerWeatherLaw" 51 yX7_read : Cond) ∈ GT := gt_at 982 (by decide +kernel) (by decide +kernel)
theorem kw_983 : (.instanceMethod yX7_read : Cond) ∈ GT := gt_at 983 (by decide +kernel) (by decide +kernel)
theorem kw_984 : (.selects "ButlerWeatherModel" yX7_read yX7_read : Cond) ∈ GT := gt_at 984 (by decide +kernel) (by decide +kernel)
theorem kw_985 : (.code yX7_read cX7_read 3 (some .int) : Cond) ∈ GT := gt_at 985 (by decide +kernel) (by decide +kernel)
theorem kw_994 : (.methodLink "ButlerWeatherLaw" 55 yX7_stands : Cond) ∈ GT := gt_at 994 (by decide +kernel) (by decide +kernel)
theorem kw_995 : (.instanceMethod yX7_stands : Cond) ∈ GT := gt_at 995 (by decide +kernel) (by decide +kernel)
theorem kw_996 : (.selects "ButlerWeatherModel" yX7_stands yX7_stands : Cond) ∈ GT := gt_at 996 (by decide +kernel) (by decide +kernel)
theorem kw_997 : (.code yX7_stands cX7_stands 3 (some .int) : Cond) ∈ GT := gt_at 997 (by decide +kernel) (by decide +kernel)
theorem kw_1044 : (.methodLink "ButlerWeatherLaw" 59 yX7_name : Cond) ∈ GT := gt_at 1044 (by decide +kernel) (by decide +kernel)
theorem kw_1045 : (.instanceMethod yX7_name : Cond) ∈ GT := gt_at 1045 (by decide +kernel) (by decide +kernel)
theorem kw_1046 : (.selects "ButlerWeatherModel" yX7_name yX7_name : Cond) ∈ GT := gt_at 1046 (by decide +kernel) (by decide +kernel)
theorem kw_1047 : (.code yX7_name cX7_name 2 (some .int) : Cond) ∈ GT := gt_at 1047 (by decide +kernel) (by decide +kernel)
theorem kw_1052 : (.methodLink "ButlerWeatherLaw" 63 yX7_door : Cond) ∈ GT := gt_at 1052 (by decide +kernel) (by decide +kernel)
theorem kw_1053 : (.instanceMethod yX7_door : Cond) ∈ GT := gt_at 1053 (by decide +kernel) (by decide +kernel)
theorem kw_1054 : (.selects "ButlerWeatherModel" yX7_door yX7_door : Cond) ∈ GT := gt_at 1054 (by decide +kernel) (by decide +kernel)
theorem kw_1055 : (.code yX7_door cX7_door 3 (some .int) : Cond) ∈ GT := gt_at 1055 (by decide +kernel) (by decide +kernel)
theorem kw_1060 : (.methodLink "ButlerWeatherLaw" 67 yX7_warmth : Cond) ∈ GT := gt_at 1060 (by decide +kernel) (by decide +kernel)
theorem kw_1061 : (.instanceMethod yX7_warmth : Cond) ∈ GT := gt_at 1061 (by decide +kernel) (by decide +kernel)
theorem kw_1062 : (.selects "ButlerWeatherModel" yX7_warmth yX7_warmth : Cond) ∈ GT := gt_at 1062 (by decide +kernel) (by decide +kernel)
theorem kw_1063 : (.code yX7_warmth cX7_warmth 2 (some .int) : Cond) ∈ GT := gt_at 1063 (by decide +kernel) (by decide +kernel)
theorem kw_1069 : (.methodLink "ButlerWeatherLaw" 71 yX7_coldest : Cond) ∈ GT := gt_at 1069 (by decide +kernel) (by decide +kernel)
theorem kw_1070 : (.instanceMethod yX7_coldest : Cond) ∈ GT := gt_at 1070 (by decide +kernel) (by decide +kernel)
theorem kw_1071 : (.selects "ButlerWeatherModel" yX7_coldest yX7_coldest : Cond) ∈ GT := gt_at 1071 (by decide +kernel) (by decide +kernel)
theorem kw_1072 : (.code yX7_coldest cX7_coldest 1 (some .int) : Cond) ∈ GT := gt_at 1072 (by decide +kernel) (by decide +kernel)
theorem kw_1077 : (.methodLink "ButlerWeatherLaw" 75 yX7_first : Cond) ∈ GT := gt_at 1077 (by decide +kernel) (by decide +kernel)
theorem kw_1078 : (.instanceMethod yX7_first : Cond) ∈ GT := gt_at 1078 (by decide +kernel) (by decide +kernel)
theorem kw_1079 : (.selects "ButlerWeatherModel" yX7_first yX7_first : Cond) ∈ GT := gt_at 1079 (by decide +kernel) (by decide +kernel)
theorem kw_1080 : (.code yX7_first cX7_first 2 (some .int) : Cond) ∈ GT := gt_at 1080 (by decide +kernel) (by decide +kernel)
theorem kw_1088 : (.methodLink "ButlerWeatherLaw" 79 yX7_sent : Cond) ∈ GT := gt_at 1088 (by decide +kernel) (by decide +kernel)
theorem kw_1089 : (.instanceMethod yX7_sent : Cond) ∈ GT := gt_at 1089 (by decide +kernel) (by decide +kernel)
theorem kw_1090 : (.selects "ButlerWeatherModel" yX7_sent yX7_sent : Cond) ∈ GT := gt_at 1090 (by decide +kernel) (by decide +kernel)
theorem kw_1091 : (.code yX7_sent cX7_sent 1 (some .int) : Cond) ∈ GT := gt_at 1091 (by decide +kernel) (by decide +kernel)
theorem kw_1100 : (.methodLink "ButlerWeatherLaw" 83 yX7_wrong : Cond) ∈ GT := gt_at 1100 (by decide +kernel) (by decide +kernel)
theorem kw_1101 : (.instanceMethod yX7_wrong : Cond) ∈ GT := gt_at 1101 (by decide +kernel) (by decide +kernel)
theorem kw_1102 : (.selects "ButlerWeatherModel" yX7_wrong yX7_wrong : Cond) ∈ GT := gt_at 1102 (by decide +kernel) (by decide +kernel)
theorem kw_1103 : (.code yX7_wrong cX7_wrong 1 (some .int) : Cond) ∈ GT := gt_at 1103 (by decide +kernel) (by decide +kernel)
theorem kw_1108 : (.methodLink "ButlerWeatherLaw" 87 yX7_sum : Cond) ∈ GT := gt_at 1108 (by decide +kernel) (by decide +kernel)
theorem kw_1109 : (.instanceMethod yX7_sum : Cond) ∈ GT := gt_at 1109 (by decide +kernel) (by decide +kernel)
theorem kw_1110 : (.selects "ButlerWeatherModel" yX7_sum yX7_sum : Cond) ∈ GT := gt_at 1110 (by decide +kernel) (by decide +kernel)
theorem kw_1111 : (.code yX7_sum cX7_sum 1 (some .int) : Cond) ∈ GT := gt_at 1111 (by decide +kernel) (by decide +kernel)
theorem kw_1120 : (.methodLink "ButlerWeatherLaw" 91 yX7_leave : Cond) ∈ GT := gt_at 1120 (by decide +kernel) (by decide +kernel)
theorem kw_1121 : (.instanceMethod yX7_leave : Cond) ∈ GT := gt_at 1121 (by decide +kernel) (by decide +kernel)
theorem kw_1122 : (.selects "ButlerWeatherModel" yX7_leave yX7_leave : Cond) ∈ GT := gt_at 1122 (by decide +kernel) (by decide +kernel)
theorem kw_1123 : (.code yX7_leave cX7_leave 3 (some .int) : Cond) ∈ GT := gt_at 1123 (by decide +kernel) (by decide +kernel)
theorem kw_1129 : (.methodLink "ButlerWeatherLaw" 95 yX7_begin : Cond) ∈ GT := gt_at 1129 (by decide +kernel) (by decide +kernel)
theorem kw_1130 : (.instanceMethod yX7_begin : Cond) ∈ GT := gt_at 1130 (by decide +kernel) (by decide +kernel)
theorem kw_1131 : (.selects "ButlerWeatherModel" yX7_begin yX7_begin : Cond) ∈ GT := gt_at 1131 (by decide +kernel) (by decide +kernel)
theorem kw_1132 : (.code yX7_begin cX7_begin 3 (some .int) : Cond) ∈ GT := gt_at 1132 (by decide +kernel) (by decide +kernel)
theorem kw_1141 : (.methodLink "ButlerWeatherLaw" 99 yX7_patience : Cond) ∈ GT := gt_at 1141 (by decide +kernel) (by decide +kernel)
theorem kw_1142 : (.instanceMethod yX7_patience : Cond) ∈ GT := gt_at 1142 (by decide +kernel) (by decide +kernel)
theorem kw_1143 : (.selects "ButlerWeatherModel" yX7_patience yX7_patience : Cond) ∈ GT := gt_at 1143 (by decide +kernel) (by decide +kernel)
theorem kw_1144 : (.code yX7_patience cX7_patience 2 (some .int) : Cond) ∈ GT := gt_at 1144 (by decide +kernel) (by decide +kernel)
theorem kw_1149 : (.methodLink "ButlerWeatherLaw" 103 yX7_burn : Cond) ∈ GT := gt_at 1149 (by decide +kernel) (by decide +kernel)
theorem kw_1150 : (.instanceMethod yX7_burn : Cond) ∈ GT := gt_at 1150 (by decide +kernel) (by decide +kernel)
theorem kw_1151 : (.selects "ButlerWeatherModel" yX7_burn yX7_burn : Cond) ∈ GT := gt_at 1151 (by decide +kernel) (by decide +kernel)
theorem kw_1152 : (.code yX7_burn cX7_burn 2 (some .int) : Cond) ∈ GT := gt_at 1152 (by decide +kernel) (by decide +kernel)
theorem kw_1165 : (.methodLink "ButlerWeatherLaw" 107 yX7_feel : Cond) ∈ GT := gt_at 1165 (by decide +kernel) (by decide +kernel)
theorem kw_1166 : (.instanceMethod yX7_feel : Cond) ∈ GT := gt_at 1166 (by decide +kernel) (by decide +kernel)
theorem kw_1167 : (.selects "ButlerWeatherModel" yX7_feel yX7_feel : Cond) ∈ GT := gt_at 1167 (by decide +kernel) (by decide +kernel)
theorem kw_1168 : (.code yX7_feel cX7_feel 3 (some .int) : Cond) ∈ GT := gt_at 1168 (by decide +kernel) (by decide +kernel)
theorem kw_1169 : (.methodLink "ButlerWeatherLaw" 111 yX7_forget : Cond) ∈ GT := gt_at 1169 (by decide +kernel) (by decide +kernel)
theorem kw_1170 : (.instanceMethod yX7_forget : Cond) ∈ GT := gt_at 1170 (by decide +kernel) (by decide +kernel)
theorem kw_1171 : (.selects "ButlerWeatherModel" yX7_forget yX7_forget : Cond) ∈ GT := gt_at 1171 (by decide +kernel) (by decide +kernel)
theorem kw_1172 : (.code yX7_forget cX7_forget 2 (some .int) : Cond) ∈ GT := gt_at 1172 (by decide +kernel) (by decide +kernel)
theorem kw_1173 : (.methodLink "ButlerWeatherLaw" 115 yX7_never : Cond) ∈ GT := gt_at 1173 (by decide +kernel) (by decide +kernel)
theorem kw_1174 : (.instanceMethod yX7_never : Cond) ∈ GT := gt_at 1174 (by decide +kernel) (by decide +kernel)
theorem kw_1175 : (.selects "ButlerWeatherModel" yX7_never yX7_never : Cond) ∈ GT := gt_at 1175 (by decide +kernel) (by decide +kernel)
theorem kw_1176 : (.code yX7_never cX7_never 1 (some .int) : Cond) ∈ GT := gt_at 1176 (by decide +kernel) (by decide +kernel)
theorem kw_1185 : (.methodLink "ButlerWeatherLaw" 119 yX7_was : Cond) ∈ GT := gt_at 1185 (by decide +kernel) (by decide +kernel)
theorem kw_1186 : (.instanceMethod yX7_was : Cond) ∈ GT := gt_at 1186 (by decide +kernel) (by decide +kernel)
theorem kw_1187 : (.selects "ButlerWeatherModel" yX7_was yX7_was : Cond) ∈ GT := gt_at 1187 (by decide +kernel) (by decide +kernel)
theorem kw_1188 : (.code yX7_was cX7_was 3 (some .int) : Cond) ∈ GT := gt_at 1188 (by decide +kernel) (by decide +kernel)
theorem kw_1197 : (.methodLink "ButlerWeatherLaw" 123 yX7_ask : Cond) ∈ GT := gt_at 1197 (by decide +kernel) (by decide +kernel)
theorem kw_1198 : (.instanceMethod yX7_ask : Cond) ∈ GT := gt_at 1198 (by decide +kernel) (by decide +kernel)
theorem kw_1199 : (.selects "ButlerWeatherModel" yX7_ask yX7_ask : Cond) ∈ GT := gt_at 1199 (by decide +kernel) (by decide +kernel)
theorem kw_1200 : (.code yX7_ask cX7_ask 2 (some .int) : Cond) ∈ GT := gt_at 1200 (by decide +kernel) (by decide +kernel)
theorem kw_1205 : (.methodLink "ButlerWeatherLaw" 128 yX7_chance : Cond) ∈ GT := gt_at 1205 (by decide +kernel) (by decide +kernel)
theorem kw_1206 : (.instanceMethod yX7_chance : Cond) ∈ GT := gt_at 1206 (by decide +kernel) (by decide +kernel)
theorem kw_1207 : (.selects "ButlerWeatherModel" yX7_chance yX7_chance : Cond) ∈ GT := gt_at 1207 (by decide +kernel) (by decide +kernel)
theorem kw_1208 : (.code yX7_chance cX7_chance 4 (some .long) : Cond) ∈ GT := gt_at 1208 (by decide +kernel) (by decide +kernel)
theorem kw_1220 : (.methodLink "ButlerWeatherLaw" 133 yX7_years : Cond) ∈ GT := gt_at 1220 (by decide +kernel) (by decide +kernel)
theorem kw_1221 : (.instanceMethod yX7_years : Cond) ∈ GT := gt_at 1221 (by decide +kernel) (by decide +kernel)
theorem kw_1222 : (.selects "ButlerWeatherModel" yX7_years yX7_years : Cond) ∈ GT := gt_at 1222 (by decide +kernel) (by decide +kernel)
theorem kw_1223 : (.code yX7_years cX7_years 4 (some .int) : Cond) ∈ GT := gt_at 1223 (by decide +kernel) (by decide +kernel)
theorem kw_1229 : (.methodLink "ButlerWeatherLaw" 137 yX7_sheet : Cond) ∈ GT := gt_at 1229 (by decide +kernel) (by decide +kernel)
theorem kw_1230 : (.instanceMethod yX7_sheet : Cond) ∈ GT := gt_at 1230 (by decide +kernel) (by decide +kernel)
theorem kw_1231 : (.selects "ButlerWeatherModel" yX7_sheet yX7_sheet : Cond) ∈ GT := gt_at 1231 (by decide +kernel) (by decide +kernel)
theorem kw_1232 : (.code yX7_sheet cX7_sheet 5 (some .int) : Cond) ∈ GT := gt_at 1232 (by decide +kernel) (by decide +kernel)
theorem kw_1233 : (.methodLink "ButlerWeatherLaw" 141 yX7_lose : Cond) ∈ GT := gt_at 1233 (by decide +kernel) (by decide +kernel)
theorem kw_1234 : (.instanceMethod yX7_lose : Cond) ∈ GT := gt_at 1234 (by decide +kernel) (by decide +kernel)
theorem kw_1235 : (.selects "ButlerWeatherModel" yX7_lose yX7_lose : Cond) ∈ GT := gt_at 1235 (by decide +kernel) (by decide +kernel)
theorem kw_1236 : (.code yX7_lose cX7_lose 2 (some .int) : Cond) ∈ GT := gt_at 1236 (by decide +kernel) (by decide +kernel)
theorem kw_1237 : (.methodLink "ButlerWeatherLaw" 146 yX7_put : Cond) ∈ GT := gt_at 1237 (by decide +kernel) (by decide +kernel)
theorem kw_1238 : (.instanceMethod yX7_put : Cond) ∈ GT := gt_at 1238 (by decide +kernel) (by decide +kernel)
theorem kw_1239 : (.selects "ButlerWeatherModel" yX7_put yX7_put : Cond) ∈ GT := gt_at 1239 (by decide +kernel) (by decide +kernel)
theorem kw_1240 : (.code yX7_put cX7_put 6 (some .int) : Cond) ∈ GT := gt_at 1240 (by decide +kernel) (by decide +kernel)
theorem kw_1249 : (.methodLink "ButlerWeatherLaw" 150 yX7_get : Cond) ∈ GT := gt_at 1249 (by decide +kernel) (by decide +kernel)
theorem kw_1250 : (.instanceMethod yX7_get : Cond) ∈ GT := gt_at 1250 (by decide +kernel) (by decide +kernel)
theorem kw_1251 : (.selects "ButlerWeatherModel" yX7_get yX7_get : Cond) ∈ GT := gt_at 1251 (by decide +kernel) (by decide +kernel)
theorem kw_1252 : (.code yX7_get cX7_get 5 (some .int) : Cond) ∈ GT := gt_at 1252 (by decide +kernel) (by decide +kernel)
theorem kw_1253 : (.methodLink "ButlerWeatherLaw" 155 yX7_copy : Cond) ∈ GT := gt_at 1253 (by decide +kernel) (by decide +kernel)
theorem kw_1254 : (.instanceMethod yX7_copy : Cond) ∈ GT := gt_at 1254 (by decide +kernel) (by decide +kernel)
theorem kw_1255 : (.selects "ButlerWeatherModel" yX7_copy yX7_copy : Cond) ∈ GT := gt_at 1255 (by decide +kernel) (by decide +kernel)
theorem kw_1256 : (.code yX7_copy cX7_copy 7 (some .int) : Cond) ∈ GT := gt_at 1256 (by decide +kernel) (by decide +kernel)
theorem kw_1257 : (.methodLink "ButlerWeatherLaw" 159 yX7_write : Cond) ∈ GT := gt_at 1257 (by decide +kernel) (by decide +kernel)
theorem kw_1258 : (.instanceMethod yX7_write : Cond) ∈ GT := gt_at 1258 (by decide +kernel) (by decide +kernel)
theorem kw_1259 : (.selects "ButlerWeatherModel" yX7_write yX7_write : Cond) ∈ GT := gt_at 1259 (by decide +kernel) (by decide +kernel)
theorem kw_1260 : (.code yX7_write cX7_write 3 (some .int) : Cond) ∈ GT := gt_at 1260 (by decide +kernel) (by decide +kernel)
theorem kw_1261 : (.methodLink "ButlerWeatherLaw" 163 yX7_count : Cond) ∈ GT := gt_at 1261 (by decide +kernel) (by decide +kernel)
theorem kw_1273 : (.methodLink "ButlerWeatherLaw" 168 yX7_digest : Cond) ∈ GT := gt_at 1273 (by decide +kernel) (by decide +kernel)
theorem kw_1274 : (.instanceMethod yX7_digest : Cond) ∈ GT := gt_at 1274 (by decide +kernel) (by decide +kernel)
theorem kw_1275 : (.selects "ButlerWeatherModel" yX7_digest yX7_digest : Cond) ∈ GT := gt_at 1275 (by decide +kernel) (by decide +kernel)
theorem kw_1276 : (.code yX7_digest cX7_digest 5 (some .long) : Cond) ∈ GT := gt_at 1276 (by decide +kernel) (by decide +kernel)
theorem cv_X6_back : zCV yX6_back cX6_back 1 (some .int) 0 := ⟨kw_436, kw_72, kw_434, kw_435, by decide +kernel, by decide +kernel, by decide +kernel⟩
theorem cv_X6_card : zCV yX6_card cX6_card 3 (some .int) 2 := ⟨kw_421, kw_72, kw_419, kw_420, by decide +kernel, by decide +kernel, by decide +kernel⟩
theorem cv_X6_copy : zCV yX6_copy cX6_copy 8 (some .int) 5 := ⟨kw_719, kw_72, kw_717, kw_718, by decide +kernel, by decide +kernel, by decide +kernel⟩
theorem cv_X6_digest : zCV yX6_digest cX6_digest 4 (some .long) 0 := ⟨kw_739, kw_72, kw_737, kw_738, by decide +kernel, by decide +kernel, by decide +kernel⟩
theorem cv_X6_feel : zCV yX6_feel cX6_feel 3 (some .int) 2 := ⟨kw_591, kw_72, kw_589, kw_590, by decide +kernel, by decide +kernel, by decide +kernel⟩
theorem cv_X6_forget : zCV yX6_forget cX6_forget 1 (some .int) 0 := ⟨kw_599, kw_72, kw_597, kw_598, by decide +kernel, by decide +kernel, by decide +kernel⟩
theorem cv_X6_get : zCV yX6_get cX6_get 5 (some .int) 3 := ⟨kw_715, kw_72, kw_713, kw_714, by decide +kernel, by decide +kernel, by decide +kernel⟩
theorem cv_X6_lose : zCV yX6_lose cX6_lose 2 (some .int) 1 := ⟨kw_693, kw_72, kw_691, kw_692, by decide +kernel, by decide +kernel, by decide +kernel⟩
theorem cv_X6_put : zCV yX6_put cX6_put 6 (some .int) 4 := ⟨kw_701, kw_72, kw_699, kw_700, by decide +kernel, by decide +kernel, by decide +kernel⟩
theorem cv_X6_read : zCV yX6_read cX6_read 4 (some .int) 1 := ⟨kw_444, kw_72, kw_442, kw_443, by decide +kernel, by decide +kernel, by decide +kernel⟩
theorem cv_X6_sheet : zCV yX6_sheet cX6_sheet 4 (some .int) 3 := ⟨kw_682, kw_72, kw_680, kw_681, by decide +kernel, by decide +kernel, by decide +kernel⟩
theorem cv_X6_type : zCV yX6_type cX6_type 3 (some .int) 2 := ⟨kw_285, kw_72, kw_283, kw_284, by decide +kernel, by decide +kernel, by decide +kernel⟩
theorem cv_X6_undo : zCV yX6_undo cX6_undo 2 (some .int) 1 := ⟨kw_312, kw_72, kw_310, kw_311, by decide +kernel, by decide +kernel, by decide +kernel⟩
theorem cv_X6_wipe : zCV yX6_wipe cX6_wipe 2 (some .int) 1 := ⟨kw_304, kw_72, kw_302, kw_303, by decide +kernel, by decide +kernel, by decide +kernel⟩
theorem cv_X6_write : zCV yX6_write cX6_write 6 (some .int) 1 := ⟨kw_730, kw_72, kw_728, kw_729, by decide +kernel, by decide +kernel, by decide +kernel⟩
theorem cv_X7_ask : zCV yX7_ask cX7_ask 2 (some .int) 1 := ⟨kw_1200, kw_79, kw_1198, kw_1199, by decide +kernel, by decide +kernel, by decide +kernel⟩
theorem cv_X7_back : zCV yX7_back cX7_back 1 (some .int) 0 := ⟨kw_981, kw_79, kw_979, kw_980, by decide +kernel, by decide +kernel, by decide +kernel⟩
theorem cv_X7_begin : zCV yX7_begin cX7_begin 3 (some .int) 2 := ⟨kw_1132, kw_79, kw_1130, kw_1131, by decide +kernel, by decide +kernel, by decide +kernel⟩
theorem cv_X7_burn : zCV yX7_burn cX7_burn 2 (some .int) 1 := ⟨kw_1152, kw_79, kw_1150, kw_1151, by decide +kernel, by decide +kernel, by decide +kernel⟩
theorem cv_X7_caller : zCV yX7_caller cX7_caller 3 (some .int) 2 := ⟨kw_946, kw_79, kw_944, kw_945, by decide +kernel, by decide +kernel, by decide +kernel⟩
theorem cv_X7_chance : zCV yX7_chance cX7_chance 4 (some .long) 3 := ⟨kw_1208, kw_79, kw_1206, kw_1207, by decide +kernel, by decide +kernel, by decide +kernel⟩
theorem cv_X7_coldest : zCV yX7_coldest cX7_coldest 1 (some .int) 0 := ⟨kw_1072, kw_79, kw_1070, kw_1071, by decide +kernel, by decide +kernel, by decide +kernel⟩
theorem cv_X7_copy : zCV yX7_copy cX7_copy 7 (some .int) 5 := ⟨kw_1256, kw_79, kw_1254, kw_1255, by decide +kernel, by decide +kernel, by decide +kernel⟩
theorem cv_X7_digest : zCV yX7_digest cX7_digest 5 (some .long) 0 := ⟨kw_1276, kw_79, kw_1274, kw_1275, by decide +kernel, by decide +kernel, by decide +kernel⟩
theorem cv_X7_door : zCV yX7_door cX7_door 3 (some .int) 2 := ⟨kw_1055, kw_79, kw_1053, kw_1054, by decide +kernel, by decide +kernel, by decide +kernel⟩
theorem cv_X7_fault : zCV yX7_fault cX7_fault 2 (some .int) 1 := ⟨kw_919, kw_79, kw_917, kw_918, by decide +kernel, by decide +kernel, by decide +kernel⟩
theorem cv_X7_feel : zCV yX7_feel cX7_feel 3 (some .int) 2 := ⟨kw_1168, kw_79, kw_1166, kw_1167, by decide +kernel, by decide +kernel, by decide +kernel⟩
theorem cv_X7_first : zCV yX7_first cX7_first 2 (some .int) 1 := ⟨kw_1080, kw_79, kw_1078, kw_1079, by decide +kernel, by decide +kernel, by decide +kernel⟩
theorem cv_X7_forget : zCV yX7_forget cX7_forget 2 (some .int) 0 := ⟨kw_1172, kw_79, kw_1170, kw_1171, by decide +kernel, by decide +kernel, by decide +kernel⟩
theorem cv_X7_get : zCV yX7_get cX7_get 5 (some .int) 3 := ⟨kw_1252, kw_79, kw_1250, kw_1251, by decide +kernel, by decide +kernel, by decide +kernel⟩
theorem cv_X7_leave : zCV yX7_leave cX7_leave 3 (some .int) 2 := ⟨kw_1123, kw_79, kw_1121, kw_1122, by decide +kernel, by decide +kernel, by decide +kernel⟩
theorem cv_X7_lose : zCV yX7_lose cX7_lose 2 (some .int) 1 := ⟨kw_1236, kw_79, kw_1234, kw_1235, by decide +kernel, by decide +kernel, by decide +kernel⟩
theorem cv_X7_man : zCV yX7_man cX7_man 3 (some .int) 2 := ⟨kw_962, kw_79, kw_960, kw_961, by decide +kernel, by decide +kernel, by decide +kernel⟩
theorem cv_X7_name : zCV yX7_name cX7_name 2 (some .int) 1 := ⟨kw_1047, kw_79, kw_1045, kw_1046, by decide +kernel, by decide +kernel, by decide +kernel⟩
theorem cv_X7_never : zCV yX7_never cX7_never 1 (some .int) 0 := ⟨kw_1176, kw_79, kw_1174, kw_1175, by decide +kernel, by decide +kernel, by decide +kernel⟩
theorem cv_X7_patience : zCV yX7_patience cX7_patience 2 (some .int) 1 := ⟨kw_1144, kw_79, kw_1142, kw_1143, by decide +kernel, by decide +kernel, by decide +kernel⟩
theorem cv_X7_put : zCV yX7_put cX7_put 6 (some .int) 4 := ⟨kw_1240, kw_79, kw_1238, kw_1239, by decide +kernel, by decide +kernel, by decide +kernel⟩
theorem cv_X7_read : zCV yX7_read cX7_read 3 (some .int) 1 := ⟨kw_985, kw_79, kw_983, kw_984, by decide +kernel, by decide +kernel, by decide +kernel⟩
theorem cv_X7_sent : zCV yX7_sent cX7_sent 1 (some .int) 0 := ⟨kw_1091, kw_79, kw_1089, kw_1090, by decide +kernel, by decide +kernel, by decide +kernel⟩
theorem cv_X7_sheet : zCV yX7_sheet cX7_sheet 5 (some .int) 3 := ⟨kw_1232, kw_79, kw_1230, kw_1231, by decide +kernel, by decide +kernel, by decide +kernel⟩
theorem cv_X7_stands : zCV yX7_stands cX7_stands 3 (some .int) 2 := ⟨kw_997, kw_79, kw_995, kw_996, by decide +kernel, by decide +kernel, by decide +kernel⟩
theorem cv_X7_sum : zCV yX7_sum cX7_sum 1 (some .int) 0 := ⟨kw_1111, kw_79, kw_1109, kw_1110, by decide +kernel, by decide +kernel, by decide +kernel⟩
theorem cv_X7_type : zCV yX7_type cX7_type 3 (some .int) 2 := ⟨kw_901, kw_79, kw_899, kw_900, by decide +kernel, by decide +kernel, by decide +kernel⟩
theorem cv_X7_undo : zCV yX7_undo cX7_undo 2 (some .int) 1 := ⟨kw_915, kw_79, kw_913, kw_914, by decide +kernel, by decide +kernel, by decide +kernel⟩
theorem cv_X7_warmth : zCV yX7_warmth cX7_warmth 2 (some .int) 1 := ⟨kw_1063, kw_79, kw_1061, kw_1062, by decide +kernel, by decide +kernel, by decide +kernel⟩
theorem cv_X7_was : zCV yX7_was cX7_was 3 (some .int) 2 := ⟨kw_1188, kw_79, kw_1186, kw_1187, by decide +kernel, by decide +kernel, by decide +kernel⟩
theorem cv_X7_wipe : zCV yX7_wipe cX7_wipe 3 (some .int) 1 := ⟨kw_911, kw_79, kw_909, kw_910, by decide +kernel, by decide +kernel, by decide +kernel⟩
theorem cv_X7_write : zCV yX7_write cX7_write 3 (some .int) 1 := ⟨kw_1260, kw_79, kw_1258, kw_1259, by decide +kernel, by decide +kernel, by decide +kernel⟩
theorem cv_X7_wrong : zCV yX7_wrong cX7_wrong 1 (some .int) 0 := ⟨kw_1103, kw_79, kw_1101, kw_1102, by decide +kernel, by decide +kernel, by decide +kernel⟩
theorem cv_X7_years : zCV yX7_years cX7_years 4 (some .int) 3 := ⟨kw_1223, kw_79, kw_1221, kw_1222, by decide +kernel, by decide +kernel, by decide +kernel⟩
-- THE LAW: two sides in one heap
def zL_A (s : State) : Nat → Prop := fun q => s.heap.size ≤ q
/-- what stays through the law: where the two sides lie -/
def zN (D : va_G) (ad : Nat → Nat) (cA : Nat → ClassId) (s : State) : Prop := (∀ b id, id ∈ zS b → s.heap.size ≤ ad id) ∧ (∀ i, i ∈ zS true → ∀ j, j ∈ zS false → ad i ≠ ad j)
def zG2 (D : va_G) (ad : Nat → Nat) (cA : Nat → ClassId) (s : State) (μC μM : zM) (H : Heap) (locs : List Loc) : Prop := va_P D vwCl (zW true ad cA μC) H ∧ va_P D vwCl (zW false ad cA μM) H ∧ va_S (zL_A s) s.heap H locs
section ZL
variable {p : Program} {l : Launch} {e : Env} {R : Room} {s : State} {m : MethodId} {args : Array Value} {below : List Frame} {meth : Method} {c : Code} {H : Heap} {locs : List Loc} {cells slots : Nat} {Q : State → Prop}
variable {cc : ByteArray} {pc : Nat} {ls : Array Slot} {rest st0 : List Value} {b : Bool} {D : va_G} {ad : Nat → Nat} {cA : Nat → ClassId} {μ μC μM : zM} {own : String} {nL : Nat}
variable {y : MethodName} {bytes : ByteArray} {maxL n index : Nat} {ret : Option FieldType} {rm : Room} {Qc : Array Value → State → Outcome → State → Prop} {As : List Value}
theorem zl_run (X : zX b D ad cA p s m args c cc own nL) (hP : va_P D vwCl (zW b ad cA μ) H) (hS : va_S (zL_A s) s.heap H locs) {id ci N : Nat} {T : u_T} (hF : vwCl[ci]? = some (y.cls, T, N) ∧ ci < 10 ∧ zok b ci = true) (ht : zty id = ci) (V : zCV y bytes maxL ret n) (hl : Cond.methodLink own index y ∈ GT) (hM : zMet b D ad cA l y bytes maxL ret rm (.ref (ad id) :: As) μ Qc) (hR : rm.cells = 0 ∧ rm.slots = 0 ∧ rm.frames + 1 ≤ R.frames ∧ 8 + (maxL + 11) + rm.locals ≤ R.locals) (hn : As.length = n) (hst : st0 = As.reverse ++ .ref (ad id) :: rest) (hL : ls.size = nL) (hrest : (rest.map fun v => v.category).sum ≤ 8) (hdg : decode cc pc = .ok (.invokevirtual index, 3)) (hcs : cells ≤ R.cells ∧ slots ≤ R.slots) :
    va_Run p l e R s m args below meth c H locs cells slots 0 0 (F0 m pc ls st0) rest (Qc (Value.ref (ad id) :: As).toArray) (zA b ad) := by
  have G : zG b D ad cA s μ H [] := ⟨hP, hS.1, fun q h1 _ => hS.2.1 q h1 (Nat.not_le.mpr h1), fun _ h => by cases h⟩
  have hH := fun (U : State) (hU : U.heap = H) (hW : s.WarmedH U.vm) => zH_of X G hU hW
  obtain ⟨hx, hb, hml, hown, hts, hK, hSt, hI⟩ := X
  obtain ⟨v1, v2, v3, v4, v5⟩ := V
  obtain ⟨q0, -, he⟩ := zW_at (ad := ad) (cA := cA) (μ := μ) (z_in ht hF.2.2)
  rw [zcell_o ht hF.2.1] at he
  refine va_runV (Ts := GT) (bytes := bytes) (maxL := maxL) (ret := ret) (C := y.cls) (n := n) ⟨hx, hb, hml, hown, hts⟩ hM ⟨callB_of n hts (gt_goodIn (fun w hw => (List.mem_cons.mp hw).elim (fun e => by rw [e]; exact v1) (fun h9 => h9))) rfl hR.1 hR.2.1 (hts _ v2) (hts _ hl) v5 hR.2.2, hts _ v3, hts _ v4⟩ ⟨zH_blind, ?_, fun U hU hW => ⟨rfl, hH U hU hW⟩⟩ rfl hn hL hst (lv_room hrest) hdg ⟨hcs.1, hcs.2⟩
  exact va_recv (q0 := q0) (ci := ci) hK.k0 hP hF.1 he
theorem zl_keepM (Nn : zN D ad cA s) {H1 : Heap} (hP : va_P D vwCl (zW false ad cA μM) H) (hk : ∀ q : Nat, q < H.size → ¬ zA true ad q → H1[q]? = H[q]?) : va_P D vwCl (zW false ad cA μM) H1 := by
  refine hP.kept (fun k q hq => ?_)
  obtain ⟨id, h1, -, rfl⟩ := zW_of hq
  exact hk _ (hP k _ hq).lt (fun ⟨i, h2, h3⟩ => Nn.2 i h2 id h1 h3.symm)
theorem zl_keepC (Nn : zN D ad cA s) {H1 : Heap} (hP : va_P D vwCl (zW true ad cA μC) H) (hk : ∀ q : Nat, q < H.size → ¬ zA false ad q → H1[q]? = H[q]?) : va_P D vwCl (zW true ad cA μC) H1 := by
  refine hP.kept (fun k q hq => ?_)
  obtain ⟨id, h1, -, rfl⟩ := zW_of hq
  exact hk _ (hP k _ hq).lt (fun ⟨i, h2, h3⟩ => Nn.2 id h1 i h2 h3)
theorem zN_A (Nn : zN D ad cA s) (b : Bool) : ∀ q, zA b ad q → zL_A s q := fun q ⟨id, h1, h2⟩ => by rw [h2]; exact Nn.1 b id h1
theorem zl_Ci (Nn : zN D ad cA s) (G : zG2 D ad cA s μC μM H locs) {av : Array Value} {r : Int32} {μ1 : zM} (hr : va_Run p l e R s m args below meth c H locs cells slots 0 0 (F0 m pc ls st0) rest (zQi true D ad cA r μ1 av) (zA true ad))
    (K : ∀ (H : Heap) (locs : List Loc), zG2 D ad cA s μ1 μM H locs → W p l e R s m args below meth c H locs cells slots Q (F0 m (pc + 3) ls (.int r :: rest))) : W p l e R s m args below meth c H locs cells slots Q (F0 m pc ls st0) := by
  refine va_calli hr G.2.2 (fun q _ h => zN_A Nn true q h) (fun q h => zN_A Nn true q h) (fun r' u t H1 locs1 ht hvm hw hB hz hk hS => ?_)
  cases hw
  exact K H1 locs1 ⟨by have := hB.2.1; rw [ht] at this; exact this, zl_keepM Nn G.2.1 hk, hS⟩
theorem zl_Mi (Nn : zN D ad cA s) (G : zG2 D ad cA s μC μM H locs) {av : Array Value} {r : Int32} {μ1 : zM} (hr : va_Run p l e R s m args below meth c H locs cells slots 0 0 (F0 m pc ls st0) rest (zQi false D ad cA r μ1 av) (zA false ad))
    (K : ∀ (H : Heap) (locs : List Loc), zG2 D ad cA s μC μ1 H locs → W p l e R s m args below meth c H locs cells slots Q (F0 m (pc + 3) ls (.int r :: rest))) : W p l e R s m args below meth c H locs cells slots Q (F0 m pc ls st0) := by
  refine va_calli hr G.2.2 (fun q _ h => zN_A Nn false q h) (fun q h => zN_A Nn false q h) (fun r' u t H1 locs1 ht hvm hw hB hz hk hS => ?_)
  cases hw
  exact K H1 locs1 ⟨zl_keepC Nn G.1 hk, by have := hB.2.1; rw [ht] at this; exact this, hS⟩
theorem zl_Cj (Nn : zN D ad cA s) (G : zG2 D ad cA s μC μM H locs) {av : Array Value} {r : Int64} {μ1 : zM} (hr : va_Run p l e R s m args below meth c H locs cells slots 0 0 (F0 m pc ls st0) rest (zQl true D ad cA r μ1 av) (zA true ad))
    (K : ∀ (H : Heap) (locs : List Loc), zG2 D ad cA s μ1 μM H locs → W p l e R s m args below meth c H locs cells slots Q (F0 m (pc + 3) ls (.long r :: rest))) : W p l e R s m args below meth c H locs cells slots Q (F0 m pc ls st0) := by
  refine va_calll hr G.2.2 (fun q _ h => zN_A Nn true q h) (fun q h => zN_A Nn true q h) (fun r' u t H1 locs1 ht hvm hw hB hz hk hS => ?_)
  cases hw
  exact K H1 locs1 ⟨by have := hB.2.1; rw [ht] at this; exact this, zl_keepM Nn G.2.1 hk, hS⟩
theorem zl_Mj (Nn : zN D ad cA s) (G : zG2 D ad cA s μC μM H locs) {av : Array Value} {r : Int64} {μ1 : zM} (hr : va_Run p l e R s m args below meth c H locs cells slots 0 0 (F0 m pc ls st0) rest (zQl false D ad cA r μ1 av) (zA false ad))
    (K : ∀ (H : Heap) (locs : List Loc), zG2 D ad cA s μC μ1 H locs → W p l e R s m args below meth c H locs cells slots Q (F0 m (pc + 3) ls (.long r :: rest))) : W p l e R s m args below meth c H locs cells slots Q (F0 m pc ls st0) := by
  refine va_calll hr G.2.2 (fun q _ h => zN_A Nn false q h) (fun q h => zN_A Nn false q h) (fun r' u t H1 locs1 ht hvm hw hB hz hk hS => ?_)
  cases hw
  exact K H1 locs1 ⟨zl_keepC Nn G.1 hk, by have := hB.2.1; rw [ht] at this; exact this, hS⟩
end ZL
theorem zl_go {L j : Nat} (hL : L ≤ 384) (hj : 6 * j ≤ L) (h : ¬ nI L - (6 : Int32) < nI (6 * j)) : 6 * j + 6 ≤ L := by
  rw [Int32.lt_iff_toInt_lt, show (6 : Int32) = nI 6 from rfl, pk_sub_toInt (by omega) (by omega), nI_toInt (by omega)] at h
  omega
theorem zl_in {L j k : Nat} (hL : L ≤ 384) (hj : 6 * j + 6 ≤ L) (hk : k < 6) {x : Int32} (hx : x = nI k) : vp_in (nI (6 * j) + x) L := by
  rw [hx, nI_add]
  exact vp_in_nI (by omega) (by omega)
theorem zl_in0 {L j : Nat} (hL : L ≤ 384) (hj : 6 * j + 6 ≤ L) : vp_in (nI (6 * j)) L := vp_in_nI (by omega) (by omega)
set_option maxHeartbeats 8000000 in
set_option maxRecDepth 100000 in
theorem law_loop {p : Program} {l : Launch} {e : Env} {s : State} {m : MethodId} {below : List Frame} {meth : Method} {c : Code} {D : va_G} {ad : Nat → Nat} {cA : Nat → ClassId} {b L : Nat} {xs : Nat → Int32} (hL : L ≤ 384) (C0 : lw_At p s m meth c b L xs) (XC : zX true D ad cA p s m #[Value.ref b] c code "ButlerWeatherLaw" 4) (XM : zX false D ad cA p s m #[Value.ref b] c code "ButlerWeatherLaw" 4) (Nn : zN D ad cA s) : ∀ (n j : Nat) (μC μM : zM) (H : Heap) (locs : List Loc) (ls : Array Slot), 6 * j ≤ L → L + 6 ≤ 6 * j + 6 * n → zRel μC μM → zG2 D ad cA s μC μM H locs → lv_has ls 4 [(0, .ref b), (1, .ref (ad 0)), (2, .ref (ad 100)), (3, .int (nI (6 * j)))] → W p l e room_1 s m #[Value.ref b] below meth c H locs 600000 7302250 (lw_Z below #[Value.ref b] s) (F0 m 18 ls []) := by
  obtain ⟨hx, hb, hr, hml, hown, hts, hX, hbl, hlocks, hgv⟩ := C0
  have hbA : ¬ zL_A s b := Nat.not_le.mpr hbl
  have hcs : 600000 ≤ room_1.cells ∧ 7302250 ≤ room_1.slots := ⟨Nat.le_refl _, Nat.le_refl _⟩
  intro n
  induction n with
  | zero =>
    intro j μC μM H locs ls h1 h2
    exact absurd h2 (by omega)
  | succ n ih =>
    intro j μC μM H locs ls hj hn hR G hl
    refine lv_iload_n hx hb dL_law_18 rfl (lv_at hl 3 rfl) ?_
    refine lv_aload_n hx hb dL_law_19 rfl (lv_at hl 0 rfl) ?_
    refine va_slen hx hb hX hbl hbA G.2.2 dL_law_20 ?_
    refine lv_bipush (v := (6 : Int32)) hx hb dL_law_21 (by decide) ?_
    refine lv_isub hx hb dL_law_23 ?_
    refine lv_icmp_gt (tgt := 1225) hx hb dL_law_24 (by decide) (fun _ => ?_) (fun hc => ?_)
    · refine lv_iconst (v := 1) hx hb dL_law_1225 (by decide) ?_
      refine va_forget (fun q hq => G.2.2.2.2 q hq) ?_
      exact lw_ret hx hb hr hlocks dL_law_1226
    have hgo : 6 * j + 6 ≤ L := zl_go hL hj hc
    have hend : ∀ (μC μM : zM) (H : Heap) (locs : List Loc) (ls : Array Slot), zRel μC μM → zG2 D ad cA s μC μM H locs → lv_has ls 4 [(0, .ref b), (1, .ref (ad 0)), (2, .ref (ad 100)), (3, .int (nI (6 * j)))] → W p l e room_1 s m #[Value.ref b] below meth c H locs 600000 7302250 (lw_Z below #[Value.ref b] s) (F0 m 1219 ls []) := by
      intro μC μM H locs ls hR G hl
      have e6 : nI (6 * j) + Int32.ofInt 6 = nI (6 * (j + 1)) := (nI_add (6 * j) 6).trans (by rw [show 6 * j + 6 = 6 * (j + 1) by omega])
      refine lv_iinc (v := nI (6 * (j + 1))) (lv' := [(3, .int (nI (6 * (j + 1)))), (0, .ref b), (1, .ref (ad 0)), (2, .ref (ad 100))]) hx hb dL_law_1219 hl (k := 3) rfl e6 (by decide) rfl (fun ls hl => ?_)
      refine lv_goto (tgt := 18) hx hb dL_law_1222 (by decide) ?_
      exact ih (j + 1) μC μM H locs ls (by omega) (by omega) hR G (lv_sub hl [1, 2, 3, 0] rfl)
    refine lv_aload_n hx hb dL_law_27 rfl (lv_at hl 0 rfl) ?_
    refine lv_iload_n hx hb dL_law_28 rfl (lv_at hl 3 rfl) ?_
    refine va_sld hx hb hX hbl hbA G.2.2 (zl_in0 hL hgo) dL_law_29 ?_
    refine lv_bipush (v := (63 : Int32)) hx hb dL_law_30 (by decide) ?_
    refine lv_iand hx hb dL_law_32 ?_
    refine lv_topi (fun y ey => ?_)
    by_cases cx : y = (0 : Int32)
    · obtain ⟨r, μC1, μM1, h1, h2, hR1⟩ := op_type (xs (nI (6 * j) + (1 : Int32)).toNatClampNeg) (xs (nI (6 * j) + (2 : Int32)).toNatClampNeg) hR
      refine lv_tableIn (off := 163) (tgt := 196) hx hb dL_law_33 (by rw [cx]; decide) (by rw [cx]; decide) (by rw [cx]; rfl) (by decide) ?_
      refine lv_aload_n hx hb dL_law_196 rfl (lv_at hl 1 rfl) ?_
      refine lv_aload_n hx hb dL_law_197 rfl (lv_at hl 0 rfl) ?_
      refine lv_iload_n hx hb dL_law_198 rfl (lv_at hl 3 rfl) ?_
      refine lv_iconst (v := (1 : Int32)) hx hb dL_law_199 (by decide) ?_
      refine lv_iadd hx hb dL_law_200 ?_
      refine va_sld hx hb hX hbl hbA G.2.2 (zl_in hL hgo (k := 1) (by decide) rfl) dL_law_201 ?_
      refine lv_aload_n hx hb dL_law_202 rfl (lv_at hl 0 rfl) ?_
      refine lv_iload_n hx hb dL_law_203 rfl (lv_at hl 3 rfl) ?_
      refine lv_iconst (v := (2 : Int32)) hx hb dL_law_204 (by decide) ?_
      refine lv_iadd hx hb dL_law_205 ?_
      refine va_sld hx hb hX hbl hbA G.2.2 (zl_in hL hgo (k := 2) (by decide) rfl) dL_law_206 ?_
      refine zl_Ci Nn G (zl_run (rest := []) XC G.1 G.2.2 rc_6 tl_0 cv_X6_type kw_282 (c_X6_type l D ad cA h1) ⟨rfl, rfl, Nat.le_of_ble_eq_true rfl, Nat.le_of_ble_eq_true rfl⟩ rfl rfl hl.1 (Nat.le_of_ble_eq_true rfl) dL_law_207 hcs) (fun H locs G => ?_)
      refine lv_aload_n hx hb dL_law_210 rfl (lv_at hl 2 rfl) ?_
      refine lv_aload_n hx hb dL_law_211 rfl (lv_at hl 0 rfl) ?_
      refine lv_iload_n hx hb dL_law_212 rfl (lv_at hl 3 rfl) ?_
      refine lv_iconst (v := (1 : Int32)) hx hb dL_law_213 (by decide) ?_
      refine lv_iadd hx hb dL_law_214 ?_
      refine va_sld hx hb hX hbl hbA G.2.2 (zl_in hL hgo (k := 1) (by decide) rfl) dL_law_215 ?_
      refine lv_aload_n hx hb dL_law_216 rfl (lv_at hl 0 rfl) ?_
      refine lv_iload_n hx hb dL_law_217 rfl (lv_at hl 3 rfl) ?_
      refine lv_iconst (v := (2 : Int32)) hx hb dL_law_218 (by decide) ?_
      refine lv_iadd hx hb dL_law_219 ?_
      refine va_sld hx hb hX hbl hbA G.2.2 (zl_in hL hgo (k := 2) (by decide) rfl) dL_law_220 ?_
      refine zl_Mi Nn G (zl_run (rest := [.int r]) XM G.2.1 G.2.2 rc_7 tl_100 cv_X7_type kw_898 (c_X7_type l D ad cA h2) ⟨rfl, rfl, Nat.le_of_ble_eq_true rfl, Nat.le_of_ble_eq_true rfl⟩ rfl rfl hl.1 (Nat.le_of_ble_eq_true rfl) dL_law_221 hcs) (fun H locs G => ?_)
      refine lv_icmp_eq (tgt := 1219) hx hb dL_law_224 (by decide) (fun _ => ?_) (fun c => absurd rfl c)
      exact hend μC1 μM1 H locs ls hR1 G hl
    have n0 := lv_neT (a := 0) cx (by decide)
    by_cases cx : y = (1 : Int32)
    · obtain ⟨r, μC1, μM1, h1, h2, hR1⟩ := op_wipe (xs (nI (6 * j) + (1 : Int32)).toNatClampNeg) hR
      refine lv_tableIn (off := 196) (tgt := 229) hx hb dL_law_33 (by rw [cx]; decide) (by rw [cx]; decide) (by rw [cx]; rfl) (by decide) ?_
      refine lv_aload_n hx hb dL_law_229 rfl (lv_at hl 1 rfl) ?_
      refine lv_aload_n hx hb dL_law_230 rfl (lv_at hl 0 rfl) ?_
      refine lv_iload_n hx hb dL_law_231 rfl (lv_at hl 3 rfl) ?_
      refine lv_iconst (v := (1 : Int32)) hx hb dL_law_232 (by decide) ?_
      refine lv_iadd hx hb dL_law_233 ?_
      refine va_sld hx hb hX hbl hbA G.2.2 (zl_in hL hgo (k := 1) (by decide) rfl) dL_law_234 ?_
      refine zl_Ci Nn G (zl_run (rest := []) XC G.1 G.2.2 rc_6 tl_0 cv_X6_wipe kw_301 (c_X6_wipe l D ad cA h1) ⟨rfl, rfl, Nat.le_of_ble_eq_true rfl, Nat.le_of_ble_eq_true rfl⟩ rfl rfl hl.1 (Nat.le_of_ble_eq_true rfl) dL_law_235 hcs) (fun H locs G => ?_)
      refine lv_aload_n hx hb dL_law_238 rfl (lv_at hl 2 rfl) ?_
      refine lv_aload_n hx hb dL_law_239 rfl (lv_at hl 0 rfl) ?_
      refine lv_iload_n hx hb dL_law_240 rfl (lv_at hl 3 rfl) ?_
      refine lv_iconst (v := (1 : Int32)) hx hb dL_law_241 (by decide) ?_
      refine lv_iadd hx hb dL_law_242 ?_
      refine va_sld hx hb hX hbl hbA G.2.2 (zl_in hL hgo (k := 1) (by decide) rfl) dL_law_243 ?_
      refine zl_Mi Nn G (zl_run (rest := [.int r]) XM G.2.1 G.2.2 rc_7 tl_100 cv_X7_wipe kw_908 (c_X7_wipe l D ad cA h2) ⟨rfl, rfl, Nat.le_of_ble_eq_true rfl, Nat.le_of_ble_eq_true rfl⟩ rfl rfl hl.1 (Nat.le_of_ble_eq_true rfl) dL_law_244 hcs) (fun H locs G => ?_)
      refine lv_icmp_eq (tgt := 1219) hx hb dL_law_247 (by decide) (fun _ => ?_) (fun c => absurd rfl c)
      exact hend μC1 μM1 H locs ls hR1 G hl
    have n1 := lv_neT (a := 1) cx (by decide)
    by_cases cx : y = (2 : Int32)
    · obtain ⟨r, μC1, μM1, h1, h2, hR1⟩ := op_undo (xs (nI (6 * j) + (1 : Int32)).toNatClampNeg) hR
      refine lv_tableIn (off := 219) (tgt := 252) hx hb dL_law_33 (by rw [cx]; decide) (by rw [cx]; decide) (by rw [cx]; rfl) (by decide) ?_
      refine lv_aload_n hx hb dL_law_252 rfl (lv_at hl 1 rfl) ?_
      refine lv_aload_n hx hb dL_law_253 rfl (lv_at hl 0 rfl) ?_
      refine lv_iload_n hx hb dL_law_254 rfl (lv_at hl 3 rfl) ?_
      refine lv_iconst (v := (1 : Int32)) hx hb dL_law_255 (by decide) ?_
      refine lv_iadd hx hb dL_law_256 ?_
      refine va_sld hx hb hX hbl hbA G.2.2 (zl_in hL hgo (k := 1) (by decide) rfl) dL_law_257 ?_
      refine zl_Ci Nn G (zl_run (rest := []) XC G.1 G.2.2 rc_6 tl_0 cv_X6_undo kw_309 (c_X6_undo l D ad cA h1) ⟨rfl, rfl, Nat.le_of_ble_eq_true rfl, Nat.le_of_ble_eq_true rfl⟩ rfl rfl hl.1 (Nat.le_of_ble_eq_true rfl) dL_law_258 hcs) (fun H locs G => ?_)
      refine lv_aload_n hx hb dL_law_261 rfl (lv_at hl 2 rfl) ?_
      refine lv_aload_n hx hb dL_law_262 rfl (lv_at hl 0 rfl) ?_
      refine lv_iload_n hx hb dL_law_263 rfl (lv_at hl 3 rfl) ?_
      refine lv_iconst (v := (1 : Int32)) hx hb dL_law_264 (by decide) ?_
      refine lv_iadd hx hb dL_law_265 ?_
      refine va_sld hx hb hX hbl hbA G.2.2 (zl_in hL hgo (k := 1) (by decide) rfl) dL_law_266 ?_
      refine zl_Mi Nn G (zl_run (rest := [.int r]) XM G.2.1 G.2.2 rc_7 tl_100 cv_X7_undo kw_912 (c_X7_undo l D ad cA h2) ⟨rfl, rfl, Nat.le_of_ble_eq_true rfl, Nat.le_of_ble_eq_true rfl⟩ rfl rfl hl.1 (Nat.le_of_ble_eq_true rfl) dL_law_267 hcs) (fun H locs G => ?_)
      refine lv_icmp_eq (tgt := 1219) hx hb dL_law_270 (by decide) (fun _ => ?_) (fun c => absurd rfl c)
      exact hend μC1 μM1 H locs ls hR1 G hl
    have n2 := lv_neT (a := 2) cx (by decide)
    by_cases cx : y = (3 : Int32)
    · obtain ⟨r, μC1, μM1, h1, h2, hR1⟩ := op_fault (xs (nI (6 * j) + (1 : Int32)).toNatClampNeg) hR
      refine lv_tableIn (off := 242) (tgt := 275) hx hb dL_law_33 (by rw [cx]; decide) (by rw [cx]; decide) (by rw [cx]; rfl) (by decide) ?_
      refine lv_aload_n hx hb dL_law_275 rfl (lv_at hl 1 rfl) ?_
      refine lv_aload_n hx hb dL_law_276 rfl (lv_at hl 0 rfl) ?_
      refine lv_iload_n hx hb dL_law_277 rfl (lv_at hl 3 rfl) ?_
      refine lv_iconst (v := (1 : Int32)) hx hb dL_law_278 (by decide) ?_
      refine lv_iadd hx hb dL_law_279 ?_
      refine va_sld hx hb hX hbl hbA G.2.2 (zl_in hL hgo (k := 1) (by decide) rfl) dL_law_280 ?_
      refine zl_Ci Nn G (zl_run (rest := []) XC G.1 G.2.2 rc_6 tl_0 cv_X6_fault kw_317 (c_X6_fault l D ad cA h1) ⟨rfl, rfl, Nat.le_of_ble_eq_true rfl, Nat.le_of_ble_eq_true rfl⟩ rfl rfl hl.1 (Nat.le_of_ble_eq_true rfl) dL_law_281 hcs) (fun H locs G => ?_)
      refine lv_aload_n hx hb dL_law_284 rfl (lv_at hl 2 rfl) ?_
      refine lv_aload_n hx hb dL_law_285 rfl (lv_at hl 0 rfl) ?_
      refine lv_iload_n hx hb dL_law_286 rfl (lv_at hl 3 rfl) ?_
      refine lv_iconst (v := (1 : Int32)) hx hb dL_law_287 (by decide) ?_
      refine lv_iadd hx hb dL_law_288 ?_
      refine va_sld hx hb hX hbl hbA G.2.2 (zl_in hL hgo (k := 1) (by decide) rfl) dL_law_289 ?_
      refine zl_Mi Nn G (zl_run (rest := [.int r]) XM G.2.1 G.2.2 rc_7 tl_100 cv_X7_fault kw_916 (c_X7_fault l D ad cA h2) ⟨rfl, rfl, Nat.le_of_ble_eq_true rfl, Nat.le_of_ble_eq_true rfl⟩ rfl rfl hl.1 (Nat.le_of_ble_eq_true rfl) dL_law_290 hcs) (fun H locs G => ?_)
      refine lv_icmp_eq (tgt := 1219) hx hb dL_law_293 (by decide) (fun _ => ?_) (fun c => absurd rfl c)
      exact hend μC1 μM1 H locs ls hR1 G hl
    have n3 := lv_neT (a := 3) cx (by decide)
    by_cases cx : y = (4 : Int32)
    · obtain ⟨r, μC1, μM1, h1, h2, hR1⟩ := op_caller (xs (nI (6 * j) + (1 : Int32)).toNatClampNeg) (xs (nI (6 * j) + (2 : Int32)).toNatClampNeg) hR
      refine lv_tableIn (off := 265) (tgt := 298) hx hb dL_law_33 (by rw [cx]; decide) (by rw [cx]; decide) (by rw [cx]; rfl) (by decide) ?_
      refine lv_aload_n hx hb dL_law_298 rfl (lv_at hl 1 rfl) ?_
      refine lv_aload_n hx hb dL_law_299 rfl (lv_at hl 0 rfl) ?_
      refine lv_iload_n hx hb dL_law_300 rfl (lv_at hl 3 rfl) ?_
      refine lv_iconst (v := (1 : Int32)) hx hb dL_law_301 (by decide) ?_
      refine lv_iadd hx hb dL_law_302 ?_
      refine va_sld hx hb hX hbl hbA G.2.2 (zl_in hL hgo (k := 1) (by decide) rfl) dL_law_303 ?_
      refine lv_aload_n hx hb dL_law_304 rfl (lv_at hl 0 rfl) ?_
      refine lv_iload_n hx hb dL_law_305 rfl (lv_at hl 3 rfl) ?_
      refine lv_iconst (v := (2 : Int32)) hx hb dL_law_306 (by decide) ?_
      refine lv_iadd hx hb dL_law_307 ?_
      refine va_sld hx hb hX hbl hbA G.2.2 (zl_in hL hgo (k := 2) (by decide) rfl) dL_law_308 ?_
      refine zl_Ci Nn G (zl_run (rest := []) XC G.1 G.2.2 rc_6 tl_0 cv_X6_caller kw_328 (c_X6_caller l D ad cA h1) ⟨rfl, rfl, Nat.le_of_ble_eq_true rfl, Nat.le_of_ble_eq_true rfl⟩ rfl rfl hl.1 (Nat.le_of_ble_eq_true rfl) dL_law_309 hcs) (fun H locs G => ?_)
      refine lv_aload_n hx hb dL_law_312 rfl (lv_at hl 2 rfl) ?_
      refine lv_aload_n hx hb dL_law_313 rfl (lv_at hl 0 rfl) ?_
      refine lv_iload_n hx hb dL_law_314 rfl (lv_at hl 3 rfl) ?_
      refine lv_iconst (v := (1 : Int32)) hx hb dL_law_315 (by decide) ?_
      refine lv_iadd hx hb dL_law_316 ?_
      refine va_sld hx hb hX hbl hbA G.2.2 (zl_in hL hgo (k := 1) (by decide) rfl) dL_law_317 ?_
      refine lv_aload_n hx hb dL_law_318 rfl (lv_at hl 0 rfl) ?_
      refine lv_iload_n hx hb dL_law_319 rfl (lv_at hl 3 rfl) ?_
      refine lv_iconst (v := (2 : Int32)) hx hb dL_law_320 (by decide) ?_
      refine lv_iadd hx hb dL_law_321 ?_
      refine va_sld hx hb hX hbl hbA G.2.2 (zl_in hL hgo (k := 2) (by decide) rfl) dL_law_322 ?_
      refine zl_Mi Nn G (zl_run (rest := [.int r]) XM G.2.1 G.2.2 rc_7 tl_100 cv_X7_caller kw_943 (c_X7_caller l D ad cA h2) ⟨rfl, rfl, Nat.le_of_ble_eq_true rfl, Nat.le_of_ble_eq_true rfl⟩ rfl rfl hl.1 (Nat.le_of_ble_eq_true rfl) dL_law_323 hcs) (fun H locs G => ?_)
      refine lv_icmp_eq (tgt := 1219) hx hb dL_law_326 (by decide) (fun _ => ?_) (fun c => absurd rfl c)
      exact hend μC1 μM1 H locs ls hR1 G hl
    have n4 := lv_neT (a := 4) cx (by decide)
    by_cases cx : y = (5 : Int32)
    · obtain ⟨r, μC1, μM1, h1, h2, hR1⟩ := op_man (xs (nI (6 * j) + (1 : Int32)).toNatClampNeg) (xs (nI (6 * j) + (2 : Int32)).toNatClampNeg) hR
      refine lv_tableIn (off := 298) (tgt := 331) hx hb dL_law_33 (by rw [cx]; decide) (by rw [cx]; decide) (by rw [cx]; rfl) (by decide) ?_
      refine lv_aload_n hx hb dL_law_331 rfl (lv_at hl 1 rfl) ?_
      refine lv_aload_n hx hb dL_law_332 rfl (lv_at hl 0 rfl) ?_
      refine lv_iload_n hx hb dL_law_333 rfl (lv_at hl 3 rfl) ?_
      refine lv_iconst (v := (1 : Int32)) hx hb dL_law_334 (by decide) ?_
      refine lv_iadd hx hb dL_law_335 ?_
      refine va_sld hx hb hX hbl hbA G.2.2 (zl_in hL hgo (k := 1) (by decide) rfl) dL_law_336 ?_
      refine lv_aload_n hx hb dL_law_337 rfl (lv_at hl 0 rfl) ?_
      refine lv_iload_n hx hb dL_law_338 rfl (lv_at hl 3 rfl) ?_
      refine lv_iconst (v := (2 : Int32)) hx hb dL_law_339 (by decide) ?_
      refine lv_iadd hx hb dL_law_340 ?_
      refine va_sld hx hb hX hbl hbA G.2.2 (zl_in hL hgo (k := 2) (by decide) rfl) dL_law_341 ?_
      refine zl_Ci Nn G (zl_run (rest := []) XC G.1 G.2.2 rc_6 tl_0 cv_X6_man kw_410 (c_X6_man l D ad cA h1) ⟨rfl, rfl, Nat.le_of_ble_eq_true rfl, Nat.le_of_ble_eq_true rfl⟩ rfl rfl hl.1 (Nat.le_of_ble_eq_true rfl) dL_law_342 hcs) (fun H locs G => ?_)
      refine lv_aload_n hx hb dL_law_345 rfl (lv_at hl 2 rfl) ?_
      refine lv_aload_n hx hb dL_law_346 rfl (lv_at hl 0 rfl) ?_
      refine lv_iload_n hx hb dL_law_347 rfl (lv_at hl 3 rfl) ?_
      refine lv_iconst (v := (1 : Int32)) hx hb dL_law_348 (by decide) ?_
      refine lv_iadd hx hb dL_law_349 ?_
      refine va_sld hx hb hX hbl hbA G.2.2 (zl_in hL hgo (k := 1) (by decide) rfl) dL_law_350 ?_
      refine lv_aload_n hx hb dL_law_351 rfl (lv_at hl 0 rfl) ?_
      refine lv_iload_n hx hb dL_law_352 rfl (lv_at hl 3 rfl) ?_
      refine lv_iconst (v := (2 : Int32)) hx hb dL_law_353 (by decide) ?_
      refine lv_iadd hx hb dL_law_354 ?_
      refine va_sld hx hb hX hbl hbA G.2.2 (zl_in hL hgo (k := 2) (by decide) rfl) dL_law_355 ?_
      refine zl_Mi Nn G (zl_run (rest := [.int r]) XM G.2.1 G.2.2 rc_7 tl_100 cv_X7_man kw_959 (c_X7_man l D ad cA h2) ⟨rfl, rfl, Nat.le_of_ble_eq_true rfl, Nat.le_of_ble_eq_true rfl⟩ rfl rfl hl.1 (Nat.le_of_ble_eq_true rfl) dL_law_356 hcs) (fun H locs G => ?_)
      refine lv_icmp_eq (tgt := 1219) hx hb dL_law_359 (by decide) (fun _ => ?_) (fun c => absurd rfl c)
      exact hend μC1 μM1 H locs ls hR1 G hl
    have n5 := lv_neT (a := 5) cx (by decide)
    by_cases cx : y = (6 : Int32)
    · obtain ⟨r, μC1, μM1, h1, h2, hR1⟩ := op_card (xs (nI (6 * j) + (1 : Int32)).toNatClampNeg) (xs (nI (6 * j) + (2 : Int32)).toNatClampNeg) hR
      refine lv_tableIn (off := 331) (tgt := 364) hx hb dL_law_33 (by rw [cx]; decide) (by rw [cx]; decide) (by rw [cx]; rfl) (by decide) ?_
      refine lv_aload_n hx hb dL_law_364 rfl (lv_at hl 1 rfl) ?_
      refine lv_aload_n hx hb dL_law_365 rfl (lv_at hl 0 rfl) ?_
      refine lv_iload_n hx hb dL_law_366 rfl (lv_at hl 3 rfl) ?_
      refine lv_iconst (v := (1 : Int32)) hx hb dL_law_367 (by decide) ?_
      refine lv_iadd hx hb dL_law_368 ?_
      refine va_sld hx hb hX hbl hbA G.2.2 (zl_in hL hgo (k := 1) (by decide) rfl) dL_law_369 ?_
      refine lv_aload_n hx hb dL_law_370 rfl (lv_at hl 0 rfl) ?_
      refine lv_iload_n hx hb dL_law_371 rfl (lv_at hl 3 rfl) ?_
      refine lv_iconst (v := (2 : Int32)) hx hb dL_law_372 (by decide) ?_
      refine lv_iadd hx hb dL_law_373 ?_
      refine va_sld hx hb hX hbl hbA G.2.2 (zl_in hL hgo (k := 2) (by decide) rfl) dL_law_374 ?_
      refine zl_Ci Nn G (zl_run (rest := []) XC G.1 G.2.2 rc_6 tl_0 cv_X6_card kw_418 (c_X6_card l D ad cA h1) ⟨rfl, rfl, Nat.le_of_ble_eq_true rfl, Nat.le_of_ble_eq_true rfl⟩ rfl rfl hl.1 (Nat.le_of_ble_eq_true rfl) dL_law_375 hcs) (fun H locs G => ?_)
      refine lv_aload_n hx hb dL_law_378 rfl (lv_at hl 2 rfl) ?_
      refine lv_aload_n hx hb dL_law_379 rfl (lv_at hl 0 rfl) ?_
      refine lv_iload_n hx hb dL_law_380 rfl (lv_at hl 3 rfl) ?_
      refine lv_iconst (v := (1 : Int32)) hx hb dL_law_381 (by decide) ?_
      refine lv_iadd hx hb dL_law_382 ?_
      refine va_sld hx hb hX hbl hbA G.2.2 (zl_in hL hgo (k := 1) (by decide) rfl) dL_law_383 ?_
      refine lv_aload_n hx hb dL_law_384 rfl (lv_at hl 0 rfl) ?_
      refine lv_iload_n hx hb dL_law_385 rfl (lv_at hl 3 rfl) ?_
      refine lv_iconst (v := (2 : Int32)) hx hb dL_law_386 (by decide) ?_
      refine lv_iadd hx hb dL_law_387 ?_
      refine va_sld hx hb hX hbl hbA G.2.2 (zl_in hL hgo (k := 2) (by decide) rfl) dL_law_388 ?_
      refine zl_Mi Nn G (zl_run (rest := [.int r]) XM G.2.1 G.2.2 rc_7 tl_100 cv_X7_card kw_971 (c_X7_card l D ad cA h2) ⟨rfl, rfl, Nat.le_of_ble_eq_true rfl, Nat.le_of_ble_eq_true rfl⟩ rfl rfl hl.1 (Nat.le_of_ble_eq_true rfl) dL_law_389 hcs) (fun H locs G => ?_)
      refine lv_icmp_eq (tgt := 1219) hx hb dL_law_392 (by decide) (fun _ => ?_) (fun c => absurd rfl c)
      exact hend μC1 μM1 H locs ls hR1 G hl
    have n6 := lv_neT (a := 6) cx (by decide)
    by_cases cx : y = (7 : Int32)
    · obtain ⟨r, μC1, μM1, h1, h2, hR1⟩ := op_back  hR
      refine lv_tableIn (off := 364) (tgt := 397) hx hb dL_law_33 (by rw [cx]; decide) (by rw [cx]; decide) (by rw [cx]; rfl) (by decide) ?_
      refine lv_aload_n hx hb dL_law_397 rfl (lv_at hl 1 rfl) ?_
      refine zl_Ci Nn G (zl_run (rest := []) XC G.1 G.2.2 rc_6 tl_0 cv_X6_back kw_433 (c_X6_back l D ad cA h1) ⟨rfl, rfl, Nat.le_of_ble_eq_true rfl, Nat.le_of_ble_eq_true rfl⟩ rfl rfl hl.1 (Nat.le_of_ble_eq_true rfl) dL_law_398 hcs) (fun H locs G => ?_)
      refine lv_aload_n hx hb dL_law_401 rfl (lv_at hl 2 rfl) ?_
      refine zl_Mi Nn G (zl_run (rest := [.int r]) XM G.2.1 G.2.2 rc_7 tl_100 cv_X7_back kw_978 (c_X7_back l D ad cA h2) ⟨rfl, rfl, Nat.le_of_ble_eq_true rfl, Nat.le_of_ble_eq_true rfl⟩ rfl rfl hl.1 (Nat.le_of_ble_eq_true rfl) dL_law_402 hcs) (fun H locs G => ?_)
      refine lv_icmp_eq (tgt := 1219) hx hb dL_law_405 (by decide) (fun _ => ?_) (fun c => absurd rfl c)
      exact hend μC1 μM1 H locs ls hR1 G hl
    have n7 := lv_neT (a := 7) cx (by decide)
    by_cases cx : y = (8 : Int32)
    · obtain ⟨r, μC1, μM1, h1, h2, hR1⟩ := op_read (xs (nI (6 * j) + (1 : Int32)).toNatClampNeg) hR
      refine lv_tableIn (off := 377) (tgt := 410) hx hb dL_law_33 (by rw [cx]; decide) (by rw [cx]; decide) (by rw [cx]; rfl) (by decide) ?_
      refine lv_aload_n hx hb dL_law_410 rfl (lv_at hl 1 rfl) ?_
      refine lv_aload_n hx hb dL_law_411 rfl (lv_at hl 0 rfl) ?_
      refine lv_iload_n hx hb dL_law_412 rfl (lv_at hl 3 rfl) ?_
      refine lv_iconst (v := (1 : Int32)) hx hb dL_law_413 (by decide) ?_
      refine lv_iadd hx hb dL_law_414 ?_
      refine va_sld hx hb hX hbl hbA G.2.2 (zl_in hL hgo (k := 1) (by decide) rfl) dL_law_415 ?_
      refine zl_Ci Nn G (zl_run (rest := []) XC G.1 G.2.2 rc_6 tl_0 cv_X6_read kw_441 (c_X6_read l D ad cA h1) ⟨rfl, rfl, Nat.le_of_ble_eq_true rfl, Nat.le_of_ble_eq_true rfl⟩ rfl rfl hl.1 (Nat.le_of_ble_eq_true rfl) dL_law_416 hcs) (fun H locs G => ?_)
      refine lv_aload_n hx hb dL_law_419 rfl (lv_at hl 2 rfl) ?_
      refine lv_aload_n hx hb dL_law_420 rfl (lv_at hl 0 rfl) ?_
      refine lv_iload_n hx hb dL_law_421 rfl (lv_at hl 3 rfl) ?_
      refine lv_iconst (v := (1 : Int32)) hx hb dL_law_422 (by decide) ?_
      refine lv_iadd hx hb dL_law_423 ?_
      refine va_sld hx hb hX hbl hbA G.2.2 (zl_in hL hgo (k := 1) (by decide) rfl) dL_law_424 ?_
      refine zl_Mi Nn G (zl_run (rest := [.int r]) XM G.2.1 G.2.2 rc_7 tl_100 cv_X7_read kw_982 (c_X7_read l D ad cA h2) ⟨rfl, rfl, Nat.le_of_ble_eq_true rfl, Nat.le_of_ble_eq_true rfl⟩ rfl rfl hl.1 (Nat.le_of_ble_eq_true rfl) dL_law_425 hcs) (fun H locs G => ?_)
      refine lv_icmp_eq (tgt := 1219) hx hb dL_law_428 (by decide) (fun _ => ?_) (fun c => absurd rfl c)
      exact hend μC1 μM1 H locs ls hR1 G hl
    have n8 := lv_neT (a := 8) cx (by decide)
    by_cases cx : y = (9 : Int32)
    · obtain ⟨r, μC1, μM1, h1, h2, hR1⟩ := op_stands (xs (nI (6 * j) + (1 : Int32)).toNatClampNeg) (xs (nI (6 * j) + (2 : Int32)).toNatClampNeg) hR
      refine lv_tableIn (off := 400) (tgt := 433) hx hb dL_law_33 (by rw [cx]; decide) (by rw [cx]; decide) (by rw [cx]; rfl) (by decide) ?_
      refine lv_aload_n hx hb dL_law_433 rfl (lv_at hl 1 rfl) ?_
      refine lv_aload_n hx hb dL_law_434 rfl (lv_at hl 0 rfl) ?_
      refine lv_iload_n hx hb dL_law_435 rfl (lv_at hl 3 rfl) ?_
      refine lv_iconst (v := (1 : Int32)) hx hb dL_law_436 (by decide) ?_
      refine lv_iadd hx hb dL_law_437 ?_
      refine va_sld hx hb hX hbl hbA G.2.2 (zl_in hL hgo (k := 1) (by decide) rfl) dL_law_438 ?_
      refine lv_aload_n hx hb dL_law_439 rfl (lv_at hl 0 rfl) ?_
      refine lv_iload_n hx hb dL_law_440 rfl (lv_at hl 3 rfl) ?_
      refine lv_iconst (v := (2 : Int32)) hx hb dL_law_441 (by decide) ?_
      refine lv_iadd hx hb dL_law_442 ?_
      refine va_sld hx hb hX hbl hbA G.2.2 (zl_in hL hgo (k := 2) (by decide) rfl) dL_law_443 ?_
      refine zl_Ci Nn G (zl_run (rest := []) XC G.1 G.2.2 rc_6 tl_0 cv_X6_stands kw_456 (c_X6_stands l D ad cA h1) ⟨rfl, rfl, Nat.le_of_ble_eq_true rfl, Nat.le_of_ble_eq_true rfl⟩ rfl rfl hl.1 (Nat.le_of_ble_eq_true rfl) dL_law_444 hcs) (fun H locs G => ?_)
      refine lv_aload_n hx hb dL_law_447 rfl (lv_at hl 2 rfl) ?_
      refine lv_aload_n hx hb dL_law_448 rfl (lv_at hl 0 rfl) ?_
      refine lv_iload_n hx hb dL_law_449 rfl (lv_at hl 3 rfl) ?_
      refine lv_iconst (v := (1 : Int32)) hx hb dL_law_450 (by decide) ?_
      refine lv_iadd hx hb dL_law_451 ?_
      refine va_sld hx hb hX hbl hbA G.2.2 (zl_in hL hgo (k := 1) (by decide) rfl) dL_law_452 ?_
      refine lv_aload_n hx hb dL_law_453 rfl (lv_at hl 0 rfl) ?_
      refine lv_iload_n hx hb dL_law_454 rfl (lv_at hl 3 rfl) ?_
      refine lv_iconst (v := (2 : Int32)) hx hb dL_law_455 (by decide) ?_
      refine lv_iadd hx hb dL_law_456 ?_
      refine va_sld hx hb hX hbl hbA G.2.2 (zl_in hL hgo (k := 2) (by decide) rfl) dL_law_457 ?_
      refine zl_Mi Nn G (zl_run (rest := [.int r]) XM G.2.1 G.2.2 rc_7 tl_100 cv_X7_stands kw_994 (c_X7_stands l D ad cA h2) ⟨rfl, rfl, Nat.le_of_ble_eq_true rfl, Nat.le_of_ble_eq_true rfl⟩ rfl rfl hl.1 (Nat.le_of_ble_eq_true rfl) dL_law_458 hcs) (fun H locs G => ?_)
      refine lv_icmp_eq (tgt := 1219) hx hb dL_law_461 (by decide) (fun _ => ?_) (fun c => absurd rfl c)
      exact hend μC1 μM1 H locs ls hR1 G hl
    have n9 := lv_neT (a := 9) cx (by decide)
    by_cases cx : y = (10 : Int32)
    · obtain ⟨r, μC1, μM1, h1, h2, hR1⟩ := op_name (xs (nI (6 * j) + (1 : Int32)).toNatClampNeg) hR
      refine lv_tableIn (off := 433) (tgt := 466) hx hb dL_law_33 (by rw [cx]; decide) (by rw [cx]; decide) (by rw [cx]; rfl) (by decide) ?_
      refine lv_aload_n hx hb dL_law_466 rfl (lv_at hl 1 rfl) ?_
      refine lv_aload_n hx hb dL_law_467 rfl (lv_at hl 0 rfl) ?_
      refine lv_iload_n hx hb dL_law_468 rfl (lv_at hl 3 rfl) ?_
      refine lv_iconst (v := (1 : Int32)) hx hb dL_law_469 (by decide) ?_
      refine lv_iadd hx hb dL_law_470 ?_
      refine va_sld hx hb hX hbl hbA G.2.2 (zl_in hL hgo (k := 1) (by decide) rfl) dL_law_471 ?_
      refine zl_Ci Nn G (zl_run (rest := []) XC G.1 G.2.2 rc_6 tl_0 cv_X6_name kw_468 (c_X6_name l D ad cA h1) ⟨rfl, rfl, Nat.le_of_ble_eq_true rfl, Nat.le_of_ble_eq_true rfl⟩ rfl rfl hl.1 (Nat.le_of_ble_eq_true rfl) dL_law_472 hcs) (fun H locs G => ?_)
      refine lv_aload_n hx hb dL_law_475 rfl (lv_at hl 2 rfl) ?_
      refine lv_aload_n hx hb dL_law_476 rfl (lv_at hl 0 rfl) ?_
      refine lv_iload_n hx hb dL_law_477 rfl (lv_at hl 3 rfl) ?_
      refine lv_iconst (v := (1 : Int32)) hx hb dL_law_478 (by decide) ?_
      refine lv_iadd hx hb dL_law_479 ?_
      refine va_sld hx hb hX hbl hbA G.2.2 (zl_in hL hgo (k := 1) (by decide) rfl) dL_law_480 ?_
      refine zl_Mi Nn G (zl_run (rest := [.int r]) XM G.2.1 G.2.2 rc_7 tl_100 cv_X7_name kw_1044 (c_X7_name l D ad cA h2) ⟨rfl, rfl, Nat.le_of_ble_eq_true rfl, Nat.le_of_ble_eq_true rfl⟩ rfl rfl hl.1 (Nat.le_of_ble_eq_true rfl) dL_law_481 hcs) (fun H locs G => ?_)
      refine lv_icmp_eq (tgt := 1219) hx hb dL_law_484 (by decide) (fun _ => ?_) (fun c => absurd rfl c)
      exact hend μC1 μM1 H locs ls hR1 G hl
    have n10 := lv_neT (a := 10) cx (by decide)
    by_cases cx : y = (11 : Int32)
    · obtain ⟨r, μC1, μM1, h1, h2, hR1⟩ := op_door (xs (nI (6 * j) + (1 : Int32)).toNatClampNeg) (xs (nI (6 * j) + (2 : Int32)).toNatClampNeg) hR
      refine lv_tableIn (off := 456) (tgt := 489) hx hb dL_law_33 (by rw [cx]; decide) (by rw [cx]; decide) (by rw [cx]; rfl) (by decide) ?_
      refine lv_aload_n hx hb dL_law_489 rfl (lv_at hl 1 rfl) ?_
      refine lv_aload_n hx hb dL_law_490 rfl (lv_at hl 0 rfl) ?_
      refine lv_iload_n hx hb dL_law_491 rfl (lv_at hl 3 rfl) ?_
      refine lv_iconst (v := (1 : Int32)) hx hb dL_law_492 (by decide) ?_
      refine lv_iadd hx hb dL_law_493 ?_
      refine va_sld hx hb hX hbl hbA G.2.2 (zl_in hL hgo (k := 1) (by decide) rfl) dL_law_494 ?_
      refine lv_aload_n hx hb dL_law_495 rfl (lv_at hl 0 rfl) ?_
      refine lv_iload_n hx hb dL_law_496 rfl (lv_at hl 3 rfl) ?_
      refine lv_iconst (v := (2 : Int32)) hx hb dL_law_497 (by decide) ?_
      refine lv_iadd hx hb dL_law_498 ?_
      refine va_sld hx hb hX hbl hbA G.2.2 (zl_in hL hgo (k := 2) (by decide) rfl) dL_law_499 ?_
      refine zl_Ci Nn G (zl_run (rest := []) XC G.1 G.2.2 rc_6 tl_0 cv_X6_door kw_472 (c_X6_door l D ad cA h1) ⟨rfl, rfl, Nat.le_of_ble_eq_true rfl, Nat.le_of_ble_eq_true rfl⟩ rfl rfl hl.1 (Nat.le_of_ble_eq_true rfl) dL_law_500 hcs) (fun H locs G => ?_)
      refine lv_aload_n hx hb dL_law_503 rfl (lv_at hl 2 rfl) ?_
      refine lv_aload_n hx hb dL_law_504 rfl (lv_at hl 0 rfl) ?_
      refine lv_iload_n hx hb dL_law_505 rfl (lv_at hl 3 rfl) ?_
      refine lv_iconst (v := (1 : Int32)) hx hb dL_law_506 (by decide) ?_
      refine lv_iadd hx hb dL_law_507 ?_
      refine va_sld hx hb hX hbl hbA G.2.2 (zl_in hL hgo (k := 1) (by decide) rfl) dL_law_508 ?_
      refine lv_aload_n hx hb dL_law_509 rfl (lv_at hl 0 rfl) ?_
      refine lv_iload_n hx hb dL_law_510 rfl (lv_at hl 3 rfl) ?_
      refine lv_iconst (v := (2 : Int32)) hx hb dL_law_511 (by decide) ?_
      refine lv_iadd hx hb dL_law_512 ?_
      refine va_sld hx hb hX hbl hbA G.2.2 (zl_in hL hgo (k := 2) (by decide) rfl) dL_law_513 ?_
      refine zl_Mi Nn G (zl_run (rest := [.int r]) XM G.2.1 G.2.2 rc_7 tl_100 cv_X7_door kw_1052 (c_X7_door l D ad cA h2) ⟨rfl, rfl, Nat.le_of_ble_eq_true rfl, Nat.le_of_ble_eq_true rfl⟩ rfl rfl hl.1 (Nat.le_of_ble_eq_true rfl) dL_law_514 hcs) (fun H locs G => ?_)
      refine lv_icmp_eq (tgt := 1219) hx hb dL_law_517 (by decide) (fun _ => ?_) (fun c => absurd rfl c)
      exact hend μC1 μM1 H locs ls hR1 G hl
    have n11 := lv_neT (a := 11) cx (by decide)
    by_cases cx : y = (12 : Int32)
    · obtain ⟨r, μC1, μM1, h1, h2, hR1⟩ := op_warmth (xs (nI (6 * j) + (1 : Int32)).toNatClampNeg) hR
      refine lv_tableIn (off := 489) (tgt := 522) hx hb dL_law_33 (by rw [cx]; decide) (by rw [cx]; decide) (by rw [cx]; rfl) (by decide) ?_
      refine lv_aload_n hx hb dL_law_522 rfl (lv_at hl 1 rfl) ?_
      refine lv_aload_n hx hb dL_law_523 rfl (lv_at hl 0 rfl) ?_
      refine lv_iload_n hx hb dL_law_524 rfl (lv_at hl 3 rfl) ?_
      refine lv_iconst (v := (1 : Int32)) hx hb dL_law_525 (by decide) ?_
      refine lv_iadd hx hb dL_law_526 ?_
      refine va_sld hx hb hX hbl hbA G.2.2 (zl_in hL hgo (k := 1) (by decide) rfl) dL_law_527 ?_
      refine zl_Ci Nn G (zl_run (rest := []) XC G.1 G.2.2 rc_6 tl_0 cv_X6_warmth kw_486 (c_X6_warmth l D ad cA h1) ⟨rfl, rfl, Nat.le_of_ble_eq_true rfl, Nat.le_of_ble_eq_true rfl⟩ rfl rfl hl.1 (Nat.le_of_ble_eq_true rfl) dL_law_528 hcs) (fun H locs G => ?_)
      refine lv_aload_n hx hb dL_law_531 rfl (lv_at hl 2 rfl) ?_
      refine lv_aload_n hx hb dL_law_532 rfl (lv_at hl 0 rfl) ?_
      refine lv_iload_n hx hb dL_law_533 rfl (lv_at hl 3 rfl) ?_
      refine lv_iconst (v := (1 : Int32)) hx hb dL_law_534 (by decide) ?_
      refine lv_iadd hx hb dL_law_535 ?_
      refine va_sld hx hb hX hbl hbA G.2.2 (zl_in hL hgo (k := 1) (by decide) rfl) dL_law_536 ?_
      refine zl_Mi Nn G (zl_run (rest := [.int r]) XM G.2.1 G.2.2 rc_7 tl_100 cv_X7_warmth kw_1060 (c_X7_warmth l D ad cA h2) ⟨rfl, rfl, Nat.le_of_ble_eq_true rfl, Nat.le_of_ble_eq_true rfl⟩ rfl rfl hl.1 (Nat.le_of_ble_eq_true rfl) dL_law_537 hcs) (fun H locs G => ?_)
      refine lv_icmp_eq (tgt := 1219) hx hb dL_law_540 (by decide) (fun _ => ?_) (fun c => absurd rfl c)
      exact hend μC1 μM1 H locs ls hR1 G hl
    have n12 := lv_neT (a := 12) cx (by decide)
    by_cases cx : y = (13 : Int32)
    · obtain ⟨r, μC1, μM1, h1, h2, hR1⟩ := op_coldest  hR
      refine lv_tableIn (off := 512) (tgt := 545) hx hb dL_law_33 (by rw [cx]; decide) (by rw [cx]; decide) (by rw [cx]; rfl) (by decide) ?_
      refine lv_aload_n hx hb dL_law_545 rfl (lv_at hl 1 rfl) ?_
      refine zl_Ci Nn G (zl_run (rest := []) XC G.1 G.2.2 rc_6 tl_0 cv_X6_coldest kw_501 (c_X6_coldest l D ad cA h1) ⟨rfl, rfl, Nat.le_of_ble_eq_true rfl, Nat.le_of_ble_eq_true rfl⟩ rfl rfl hl.1 (Nat.le_of_ble_eq_true rfl) dL_law_546 hcs) (fun H locs G => ?_)
      refine lv_aload_n hx hb dL_law_549 rfl (lv_at hl 2 rfl) ?_
      refine zl_Mi Nn G (zl_run (rest := [.int r]) XM G.2.1 G.2.2 rc_7 tl_100 cv_X7_coldest kw_1069 (c_X7_coldest l D ad cA h2) ⟨rfl, rfl, Nat.le_of_ble_eq_true rfl, Nat.le_of_ble_eq_true rfl⟩ rfl rfl hl.1 (Nat.le_of_ble_eq_true rfl) dL_law_550 hcs) (fun H locs G => ?_)
      refine lv_icmp_eq (tgt := 1219) hx hb dL_law_553 (by decide) (fun _ => ?_) (fun c => absurd rfl c)
      exact hend μC1 μM1 H locs ls hR1 G hl
    have n13 := lv_neT (a := 13) cx (by decide)
    by_cases cx : y = (14 : Int32)
    · obtain ⟨r, μC1, μM1, h1, h2, hR1⟩ := op_first (xs (nI (6 * j) + (1 : Int32)).toNatClampNeg) hR
      refine lv_tableIn (off := 525) (tgt := 558) hx hb dL_law_33 (by rw [cx]; decide) (by rw [cx]; decide) (by rw [cx]; rfl) (by decide) ?_
      refine lv_aload_n hx hb dL_law_558 rfl (lv_at hl 1 rfl) ?_
      refine lv_aload_n hx hb dL_law_559 rfl (lv_at hl 0 rfl) ?_
      refine lv_iload_n hx hb dL_law_560 rfl (lv_at hl 3 rfl) ?_
      refine lv_iconst (v := (1 : Int32)) hx hb dL_law_561 (by decide) ?_
      refine lv_iadd hx hb dL_law_562 ?_
      refine va_sld hx hb hX hbl hbA G.2.2 (zl_in hL hgo (k := 1) (by decide) rfl) dL_law_563 ?_
      refine zl_Ci Nn G (zl_run (rest := []) XC G.1 G.2.2 rc_6 tl_0 cv_X6_first kw_505 (c_X6_first l D ad cA h1) ⟨rfl, rfl, Nat.le_of_ble_eq_true rfl, Nat.le_of_ble_eq_true rfl⟩ rfl rfl hl.1 (Nat.le_of_ble_eq_true rfl) dL_law_564 hcs) (fun H locs G => ?_)
      refine lv_aload_n hx hb dL_law_567 rfl (lv_at hl 2 rfl) ?_
      refine lv_aload_n hx hb dL_law_568 rfl (lv_at hl 0 rfl) ?_
      refine lv_iload_n hx hb dL_law_569 rfl (lv_at hl 3 rfl) ?_
      refine lv_iconst (v := (1 : Int32)) hx hb dL_law_570 (by decide) ?_
      refine lv_iadd hx hb dL_law_571 ?_
      refine va_sld hx hb hX hbl hbA G.2.2 (zl_in hL hgo (k := 1) (by decide) rfl) dL_law_572 ?_
      refine zl_Mi Nn G (zl_run (rest := [.int r]) XM G.2.1 G.2.2 rc_7 tl_100 cv_X7_first kw_1077 (c_X7_first l D ad cA h2) ⟨rfl, rfl, Nat.le_of_ble_eq_true rfl, Nat.le_of_ble_eq_true rfl⟩ rfl rfl hl.1 (Nat.le_of_ble_eq_true rfl) dL_law_573 hcs) (fun H locs G => ?_)
      refine lv_icmp_eq (tgt := 1219) hx hb dL_law_576 (by decide) (fun _ => ?_) (fun c => absurd rfl c)
      exact hend μC1 μM1 H locs ls hR1 G hl
    have n14 := lv_neT (a := 14) cx (by decide)
    by_cases cx : y = (15 : Int32)
    · obtain ⟨r, μC1, μM1, h1, h2, hR1⟩ := op_sent  hR
      refine lv_tableIn (off := 548) (tgt := 581) hx hb dL_law_33 (by rw [cx]; decide) (by rw [cx]; decide) (by rw [cx]; rfl) (by decide) ?_
      refine lv_aload_n hx hb dL_law_581 rfl (lv_at hl 1 rfl) ?_
      refine zl_Ci Nn G (zl_run (rest := []) XC G.1 G.2.2 rc_6 tl_0 cv_X6_sent kw_513 (c_X6_sent l D ad cA h1) ⟨rfl, rfl, Nat.le_of_ble_eq_true rfl, Nat.le_of_ble_eq_true rfl⟩ rfl rfl hl.1 (Nat.le_of_ble_eq_true rfl) dL_law_582 hcs) (fun H locs G => ?_)
      refine lv_aload_n hx hb dL_law_585 rfl (lv_at hl 2 rfl) ?_
      refine zl_Mi Nn G (zl_run (rest := [.int r]) XM G.2.1 G.2.2 rc_7 tl_100 cv_X7_sent kw_1088 (c_X7_sent l D ad cA h2) ⟨rfl, rfl, Nat.le_of_ble_eq_true rfl, Nat.le_of_ble_eq_true rfl⟩ rfl rfl hl.1 (Nat.le_of_ble_eq_true rfl) dL_law_586 hcs) (fun H locs G => ?_)
      refine lv_icmp_eq (tgt := 1219) hx hb dL_law_589 (by decide) (fun _ => ?_) (fun c => absurd rfl c)
      exact hend μC1 μM1 H locs ls hR1 G hl
    have n15 := lv_neT (a := 15) cx (by decide)
    by_cases cx : y = (16 : Int32)
    · obtain ⟨r, μC1, μM1, h1, h2, hR1⟩ := op_wrong  hR
      refine lv_tableIn (off := 561) (tgt := 594) hx hb dL_law_33 (by rw [cx]; decide) (by rw [cx]; decide) (by rw [cx]; rfl) (by decide) ?_
      refine lv_aload_n hx hb dL_law_594 rfl (lv_at hl 1 rfl) ?_
      refine zl_Ci Nn G (zl_run (rest := []) XC G.1 G.2.2 rc_6 tl_0 cv_X6_wrong kw_525 (c_X6_wrong l D ad cA h1) ⟨rfl, rfl, Nat.le_of_ble_eq_true rfl, Nat.le_of_ble_eq_true rfl⟩ rfl rfl hl.1 (Nat.le_of_ble_eq_true rfl) dL_law_595 hcs) (fun H locs G => ?_)
      refine lv_aload_n hx hb dL_law_598 rfl (lv_at hl 2 rfl) ?_
      refine zl_Mi Nn G (zl_run (rest := [.int r]) XM G.2.1 G.2.2 rc_7 tl_100 cv_X7_wrong kw_1100 (c_X7_wrong l D ad cA h2) ⟨rfl, rfl, Nat.le_of_ble_eq_true rfl, Nat.le_of_ble_eq_true rfl⟩ rfl rfl hl.1 (Nat.le_of_ble_eq_true rfl) dL_law_599 hcs) (fun H locs G => ?_)
      refine lv_icmp_eq (tgt := 1219) hx hb dL_law_602 (by decide) (fun _ => ?_) (fun c => absurd rfl c)
      exact hend μC1 μM1 H locs ls hR1 G hl
    have n16 := lv_neT (a := 16) cx (by decide)
    by_cases cx : y = (17 : Int32)
    · obtain ⟨r, μC1, μM1, h1, h2, hR1⟩ := op_sum  hR
      refine lv_tableIn (off := 574) (tgt := 607) hx hb dL_law_33 (by rw [cx]; decide) (by rw [cx]; decide) (by rw [cx]; rfl) (by decide) ?_
      refine lv_aload_n hx hb dL_law_607 rfl (lv_at hl 1 rfl) ?_
      refine zl_Ci Nn G (zl_run (rest := []) XC G.1 G.2.2 rc_6 tl_0 cv_X6_sum kw_533 (c_X6_sum l D ad cA h1) ⟨rfl, rfl, Nat.le_of_ble_eq_true rfl, Nat.le_of_ble_eq_true rfl⟩ rfl rfl hl.1 (Nat.le_of_ble_eq_true rfl) dL_law_608 hcs) (fun H locs G => ?_)
      refine lv_aload_n hx hb dL_law_611 rfl (lv_at hl 2 rfl) ?_
      refine zl_Mi Nn G (zl_run (rest := [.int r]) XM G.2.1 G.2.2 rc_7 tl_100 cv_X7_sum kw_1108 (c_X7_sum l D ad cA h2) ⟨rfl, rfl, Nat.le_of_ble_eq_true rfl, Nat.le_of_ble_eq_true rfl⟩ rfl rfl hl.1 (Nat.le_of_ble_eq_true rfl) dL_law_612 hcs) (fun H locs G => ?_)
      refine lv_icmp_eq (tgt := 1219) hx hb dL_law_615 (by decide) (fun _ => ?_) (fun c => absurd rfl c)
      exact hend μC1 μM1 H locs ls hR1 G hl
    have n17 := lv_neT (a := 17) cx (by decide)
    by_cases cx : y = (18 : Int32)
    · obtain ⟨r, μC1, μM1, h1, h2, hR1⟩ := op_leave (xs (nI (6 * j) + (1 : Int32)).toNatClampNeg) (xs (nI (6 * j) + (2 : Int32)).toNatClampNeg) hR
      refine lv_tableIn (off := 587) (tgt := 620) hx hb dL_law_33 (by rw [cx]; decide) (by rw [cx]; decide) (by rw [cx]; rfl) (by decide) ?_
      refine lv_aload_n hx hb dL_law_620 rfl (lv_at hl 1 rfl) ?_
      refine lv_aload_n hx hb dL_law_621 rfl (lv_at hl 0 rfl) ?_
      refine lv_iload_n hx hb dL_law_622 rfl (lv_at hl 3 rfl) ?_
      refine lv_iconst (v := (1 : Int32)) hx hb dL_law_623 (by decide) ?_
      refine lv_iadd hx hb dL_law_624 ?_
      refine va_sld hx hb hX hbl hbA G.2.2 (zl_in hL hgo (k := 1) (by decide) rfl) dL_law_625 ?_
      refine lv_aload_n hx hb dL_law_626 rfl (lv_at hl 0 rfl) ?_
      refine lv_iload_n hx hb dL_law_627 rfl (lv_at hl 3 rfl) ?_
      refine lv_iconst (v := (2 : Int32)) hx hb dL_law_628 (by decide) ?_
      refine lv_iadd hx hb dL_law_629 ?_
      refine va_sld hx hb hX hbl hbA G.2.2 (zl_in hL hgo (k := 2) (by decide) rfl) dL_law_630 ?_
      refine zl_Ci Nn G (zl_run (rest := []) XC G.1 G.2.2 rc_6 tl_0 cv_X6_leave kw_541 (c_X6_leave l D ad cA h1) ⟨rfl, rfl, Nat.le_of_ble_eq_true rfl, Nat.le_of_ble_eq_true rfl⟩ rfl rfl hl.1 (Nat.le_of_ble_eq_true rfl) dL_law_631 hcs) (fun H locs G => ?_)
      refine lv_aload_n hx hb dL_law_634 rfl (lv_at hl 2 rfl) ?_
      refine lv_aload_n hx hb dL_law_635 rfl (lv_at hl 0 rfl) ?_
      refine lv_iload_n hx hb dL_law_636 rfl (lv_at hl 3 rfl) ?_
      refine lv_iconst (v := (1 : Int32)) hx hb dL_law_637 (by decide) ?_
      refine lv_iadd hx hb dL_law_638 ?_
      refine va_sld hx hb hX hbl hbA G.2.2 (zl_in hL hgo (k := 1) (by decide) rfl) dL_law_639 ?_
      refine lv_aload_n hx hb dL_law_640 rfl (lv_at hl 0 rfl) ?_
      refine lv_iload_n hx hb dL_law_641 rfl (lv_at hl 3 rfl) ?_
      refine lv_iconst (v := (2 : Int32)) hx hb dL_law_642 (by decide) ?_
      refine lv_iadd hx hb dL_law_643 ?_
      refine va_sld hx hb hX hbl hbA G.2.2 (zl_in hL hgo (k := 2) (by decide) rfl) dL_law_644 ?_
      refine zl_Mi Nn G (zl_run (rest := [.int r]) XM G.2.1 G.2.2 rc_7 tl_100 cv_X7_leave kw_1120 (c_X7_leave l D ad cA h2) ⟨rfl, rfl, Nat.le_of_ble_eq_true rfl, Nat.le_of_ble_eq_true rfl⟩ rfl rfl hl.1 (Nat.le_of_ble_eq_true rfl) dL_law_645 hcs) (fun H locs G => ?_)
      refine lv_icmp_eq (tgt := 1219) hx hb dL_law_648 (by decide) (fun _ => ?_) (fun c => absurd rfl c)
      exact hend μC1 μM1 H locs ls hR1 G hl
    have n18 := lv_neT (a := 18) cx (by decide)
    by_cases cx : y = (19 : Int32)
    · obtain ⟨r, μC1, μM1, h1, h2, hR1⟩ := op_begin (xs (nI (6 * j) + (1 : Int32)).toNatClampNeg) (xs (nI (6 * j) + (2 : Int32)).toNatClampNeg) hR
      refine lv_tableIn (off := 620) (tgt := 653) hx hb dL_law_33 (by rw [cx]; decide) (by rw [cx]; decide) (by rw [cx]; rfl) (by decide) ?_
      refine lv_aload_n hx hb dL_law_653 rfl (lv_at hl 1 rfl) ?_
      refine lv_aload_n hx hb dL_law_654 rfl (lv_at hl 0 rfl) ?_
      refine lv_iload_n hx hb dL_law_655 rfl (lv_at hl 3 rfl) ?_
      refine lv_iconst (v := (1 : Int32)) hx hb dL_law_656 (by decide) ?_
      refine lv_iadd hx hb dL_law_657 ?_
      refine va_sld hx hb hX hbl hbA G.2.2 (zl_in hL hgo (k := 1) (by decide) rfl) dL_law_658 ?_
      refine lv_aload_n hx hb dL_law_659 rfl (lv_at hl 0 rfl) ?_
      refine lv_iload_n hx hb dL_law_660 rfl (lv_at hl 3 rfl) ?_
      refine lv_iconst (v := (2 : Int32)) hx hb dL_law_661 (by decide) ?_
      refine lv_iadd hx hb dL_law_662 ?_
      refine va_sld hx hb hX hbl hbA G.2.2 (zl_in hL hgo (k := 2) (by decide) rfl) dL_law_663 ?_
      refine zl_Ci Nn G (zl_run (rest := []) XC G.1 G.2.2 rc_6 tl_0 cv_X6_begin kw_551 (c_X6_begin l D ad cA h1) ⟨rfl, rfl, Nat.le_of_ble_eq_true rfl, Nat.le_of_ble_eq_true rfl⟩ rfl rfl hl.1 (Nat.le_of_ble_eq_true rfl) dL_law_664 hcs) (fun H locs G => ?_)
      refine lv_aload_n hx hb dL_law_667 rfl (lv_at hl 2 rfl) ?_
      refine lv_aload_n hx hb dL_law_668 rfl (lv_at hl 0 rfl) ?_
      refine lv_iload_n hx hb dL_law_669 rfl (lv_at hl 3 rfl) ?_
      refine lv_iconst (v := (1 : Int32)) hx hb dL_law_670 (by decide) ?_
      refine lv_iadd hx hb dL_law_671 ?_
      refine va_sld hx hb hX hbl hbA G.2.2 (zl_in hL hgo (k := 1) (by decide) rfl) dL_law_672 ?_
      refine lv_aload_n hx hb dL_law_673 rfl (lv_at hl 0 rfl) ?_
      refine lv_iload_n hx hb dL_law_674 rfl (lv_at hl 3 rfl) ?_
      refine lv_iconst (v := (2 : Int32)) hx hb dL_law_675 (by decide) ?_
      refine lv_iadd hx hb dL_law_676 ?_
      refine va_sld hx hb hX hbl hbA G.2.2 (zl_in hL hgo (k := 2) (by decide) rfl) dL_law_677 ?_
      refine zl_Mi Nn G (zl_run (rest := [.int r]) XM G.2.1 G.2.2 rc_7 tl_100 cv_X7_begin kw_1129 (c_X7_begin l D ad cA h2) ⟨rfl, rfl, Nat.le_of_ble_eq_true rfl, Nat.le_of_ble_eq_true rfl⟩ rfl rfl hl.1 (Nat.le_of_ble_eq_true rfl) dL_law_678 hcs) (fun H locs G => ?_)
      refine lv_icmp_eq (tgt := 1219) hx hb dL_law_681 (by decide) (fun _ => ?_) (fun c => absurd rfl c)
      exact hend μC1 μM1 H locs ls hR1 G hl
    have n19 := lv_neT (a := 19) cx (by decide)
    by_cases cx : y = (20 : Int32)
    · obtain ⟨r, μC1, μM1, h1, h2, hR1⟩ := op_patience (xs (nI (6 * j) + (1 : Int32)).toNatClampNeg) hR
      refine lv_tableIn (off := 653) (tgt := 686) hx hb dL_law_33 (by rw [cx]; decide) (by rw [cx]; decide) (by rw [cx]; rfl) (by decide) ?_
      refine lv_aload_n hx hb dL_law_686 rfl (lv_at hl 1 rfl) ?_
      refine lv_aload_n hx hb dL_law_687 rfl (lv_at hl 0 rfl) ?_
      refine lv_iload_n hx hb dL_law_688 rfl (lv_at hl 3 rfl) ?_
      refine lv_iconst (v := (1 : Int32)) hx hb dL_law_689 (by decide) ?_
      refine lv_iadd hx hb dL_law_690 ?_
      refine va_sld hx hb hX hbl hbA G.2.2 (zl_in hL hgo (k := 1) (by decide) rfl) dL_law_691 ?_
      refine zl_Ci Nn G (zl_run (rest := []) XC G.1 G.2.2 rc_6 tl_0 cv_X6_patience kw_565 (c_X6_patience l D ad cA h1) ⟨rfl, rfl, Nat.le_of_ble_eq_true rfl, Nat.le_of_ble_eq_true rfl⟩ rfl rfl hl.1 (Nat.le_of_ble_eq_true rfl) dL_law_692 hcs) (fun H locs G => ?_)
      refine lv_aload_n hx hb dL_law_695 rfl (lv_at hl 2 rfl) ?_
      refine lv_aload_n hx hb dL_law_696 rfl (lv_at hl 0 rfl) ?_
      refine lv_iload_n hx hb dL_law_697 rfl (lv_at hl 3 rfl) ?_
      refine lv_iconst (v := (1 : Int32)) hx hb dL_law_698 (by decide) ?_
      refine lv_iadd hx hb dL_law_699 ?_
      refine va_sld hx hb hX hbl hbA G.2.2 (zl_in hL hgo (k := 1) (by decide) rfl) dL_law_700 ?_
      refine zl_Mi Nn G (zl_run (rest := [.int r]) XM G.2.1 G.2.2 rc_7 tl_100 cv_X7_patience kw_1141 (c_X7_patience l D ad cA h2) ⟨rfl, rfl, Nat.le_of_ble_eq_true rfl, Nat.le_of_ble_eq_true rfl⟩ rfl rfl hl.1 (Nat.le_of_ble_eq_true rfl) dL_law_701 hcs) (fun H locs G => ?_)
      refine lv_icmp_eq (tgt := 1219) hx hb dL_law_704 (by decide) (fun _ => ?_) (fun c => absurd rfl c)
      exact hend μC1 μM1 H locs ls hR1 G hl
    have n20 := lv_neT (a := 20) cx (by decide)
    by_cases cx : y = (21 : Int32)
    · obtain ⟨r, μC1, μM1, h1, h2, hR1⟩ := op_burn (xs (nI (6 * j) + (1 : Int32)).toNatClampNeg) hR
      refine lv_tableIn (off := 676) (tgt := 709) hx hb dL_law_33 (by rw [cx]; decide) (by rw [cx]; decide) (by rw [cx]; rfl) (by decide) ?_
      refine lv_aload_n hx hb dL_law_709 rfl (lv_at hl 1 rfl) ?_
      refine lv_aload_n hx hb dL_law_710 rfl (lv_at hl 0 rfl) ?_
      refine lv_iload_n hx hb dL_law_711 rfl (lv_at hl 3 rfl) ?_
      refine lv_iconst (v := (1 : Int32)) hx hb dL_law_712 (by decide) ?_
      refine lv_iadd hx hb dL_law_713 ?_
      refine va_sld hx hb hX hbl hbA G.2.2 (zl_in hL hgo (k := 1) (by decide) rfl) dL_law_714 ?_
      refine zl_Ci Nn G (zl_run (rest := []) XC G.1 G.2.2 rc_6 tl_0 cv_X6_burn kw_569 (c_X6_burn l D ad cA h1) ⟨rfl, rfl, Nat.le_of_ble_eq_true rfl, Nat.le_of_ble_eq_true rfl⟩ rfl rfl hl.1 (Nat.le_of_ble_eq_true rfl) dL_law_715 hcs) (fun H locs G => ?_)
      refine lv_aload_n hx hb dL_law_718 rfl (lv_at hl 2 rfl) ?_
      refine lv_aload_n hx hb dL_law_719 rfl (lv_at hl 0 rfl) ?_
      refine lv_iload_n hx hb dL_law_720 rfl (lv_at hl 3 rfl) ?_
      refine lv_iconst (v := (1 : Int32)) hx hb dL_law_721 (by decide) ?_
      refine lv_iadd hx hb dL_law_722 ?_
      refine va_sld hx hb hX hbl hbA G.2.2 (zl_in hL hgo (k := 1) (by decide) rfl) dL_law_723 ?_
      refine zl_Mi Nn G (zl_run (rest := [.int r]) XM G.2.1 G.2.2 rc_7 tl_100 cv_X7_burn kw_1149 (c_X7_burn l D ad cA h2) ⟨rfl, rfl, Nat.le_of_ble_eq_true rfl, Nat.le_of_ble_eq_true rfl⟩ rfl rfl hl.1 (Nat.le_of_ble_eq_true rfl) dL_law_724 hcs) (fun H locs G => ?_)
      refine lv_icmp_eq (tgt := 1219) hx hb dL_law_727 (by decide) (fun _ => ?_) (fun c => absurd rfl c)
      exact hend μC1 μM1 H locs ls hR1 G hl
    have n21 := lv_neT (a := 21) cx (by decide)
    by_cases cx : y = (22 : Int32)
    · obtain ⟨r, μC1, μM1, h1, h2, hR1⟩ := op_feel (xs (nI (6 * j) + (1 : Int32)).toNatClampNeg) (xs (nI (6 * j) + (2 : Int32)).toNatClampNeg) hR
      refine lv_tableIn (off := 699) (tgt := 732) hx hb dL_law_33 (by rw [cx]; decide) (by rw [cx]; decide) (by rw [cx]; rfl) (by decide) ?_
      refine lv_aload_n hx hb dL_law_732 rfl (lv_at hl 1 rfl) ?_
      refine lv_aload_n hx hb dL_law_733 rfl (lv_at hl 0 rfl) ?_
      refine lv_iload_n hx hb dL_law_734 rfl (lv_at hl 3 rfl) ?_
      refine lv_iconst (v := (1 : Int32)) hx hb dL_law_735 (by decide) ?_
      refine lv_iadd hx hb dL_law_736 ?_
      refine va_sld hx hb hX hbl hbA G.2.2 (zl_in hL hgo (k := 1) (by decide) rfl) dL_law_737 ?_
      refine lv_aload_n hx hb dL_law_738 rfl (lv_at hl 0 rfl) ?_
      refine lv_iload_n hx hb dL_law_739 rfl (lv_at hl 3 rfl) ?_
      refine lv_iconst (v := (2 : Int32)) hx hb dL_law_740 (by decide) ?_
      refine lv_iadd hx hb dL_law_741 ?_
      refine va_sld hx hb hX hbl hbA G.2.2 (zl_in hL hgo (k := 2) (by decide) rfl) dL_law_742 ?_
      refine zl_Ci Nn G (zl_run (rest := []) XC G.1 G.2.2 rc_6 tl_0 cv_X6_feel kw_588 (c_X6_feel l D ad cA h1) ⟨rfl, rfl, Nat.le_of_ble_eq_true rfl, Nat.le_of_ble_eq_true rfl⟩ rfl rfl hl.1 (Nat.le_of_ble_eq_true rfl) dL_law_743 hcs) (fun H locs G => ?_)
      refine lv_aload_n hx hb dL_law_746 rfl (lv_at hl 2 rfl) ?_
      refine lv_aload_n hx hb dL_law_747 rfl (lv_at hl 0 rfl) ?_
      refine lv_iload_n hx hb dL_law_748 rfl (lv_at hl 3 rfl) ?_
      refine lv_iconst (v := (1 : Int32)) hx hb dL_law_749 (by decide) ?_
      refine lv_iadd hx hb dL_law_750 ?_
      refine va_sld hx hb hX hbl hbA G.2.2 (zl_in hL hgo (k := 1) (by decide) rfl) dL_law_751 ?_
      refine lv_aload_n hx hb dL_law_752 rfl (lv_at hl 0 rfl) ?_
      refine lv_iload_n hx hb dL_law_753 rfl (lv_at hl 3 rfl) ?_
      refine lv_iconst (v := (2 : Int32)) hx hb dL_law_754 (by decide) ?_
      refine lv_iadd hx hb dL_law_755 ?_
      refine va_sld hx hb hX hbl hbA G.2.2 (zl_in hL hgo (k := 2) (by decide) rfl) dL_law_756 ?_
      refine zl_Mi Nn G (zl_run (rest := [.int r]) XM G.2.1 G.2.2 rc_7 tl_100 cv_X7_feel kw_1165 (c_X7_feel l D ad cA h2) ⟨rfl, rfl, Nat.le_of_ble_eq_true rfl, Nat.le_of_ble_eq_true rfl⟩ rfl rfl hl.1 (Nat.le_of_ble_eq_true rfl) dL_law_757 hcs) (fun H locs G => ?_)
      refine lv_icmp_eq (tgt := 1219) hx hb dL_law_760 (by decide) (fun _ => ?_) (fun c => absurd rfl c)
      exact hend μC1 μM1 H locs ls hR1 G hl
    have n22 := lv_neT (a := 22) cx (by decide)
    by_cases cx : y = (23 : Int32)
    · obtain ⟨r, μC1, μM1, h1, h2, hR1⟩ := op_forget  hR
      refine lv_tableIn (off := 732) (tgt := 765) hx hb dL_law_33 (by rw [cx]; decide) (by rw [cx]; decide) (by rw [cx]; rfl) (by decide) ?_
      refine lv_aload_n hx hb dL_law_765 rfl (lv_at hl 1 rfl) ?_
      refine zl_Ci Nn G (zl_run (rest := []) XC G.1 G.2.2 rc_6 tl_0 cv_X6_forget kw_596 (c_X6_forget l D ad cA h1) ⟨rfl, rfl, Nat.le_of_ble_eq_true rfl, Nat.le_of_ble_eq_true rfl⟩ rfl rfl hl.1 (Nat.le_of_ble_eq_true rfl) dL_law_766 hcs) (fun H locs G => ?_)
      refine lv_aload_n hx hb dL_law_769 rfl (lv_at hl 2 rfl) ?_
      refine zl_Mi Nn G (zl_run (rest := [.int r]) XM G.2.1 G.2.2 rc_7 tl_100 cv_X7_forget kw_1169 (c_X7_forget l D ad cA h2) ⟨rfl, rfl, Nat.le_of_ble_eq_true rfl, Nat.le_of_ble_eq_true rfl⟩ rfl rfl hl.1 (Nat.le_of_ble_eq_true rfl) dL_law_770 hcs) (fun H locs G => ?_)
      refine lv_icmp_eq (tgt := 1219) hx hb dL_law_773 (by decide) (fun _ => ?_) (fun c => absurd rfl c)
      exact hend μC1 μM1 H locs ls hR1 G hl
    have n23 := lv_neT (a := 23) cx (by decide)
    by_cases cx : y = (24 : Int32)
    · obtain ⟨r, μC1, μM1, h1, h2, hR1⟩ := op_never  hR
      refine lv_tableIn (off := 745) (tgt := 778) hx hb dL_law_33 (by rw [cx]; decide) (by rw [cx]; decide) (by rw [cx]; rfl) (by decide) ?_
      refine lv_aload_n hx hb dL_law_778 rfl (lv_at hl 1 rfl) ?_
      refine zl_Ci Nn G (zl_run (rest := []) XC G.1 G.2.2 rc_6 tl_0 cv_X6_never kw_604 (c_X6_never l D ad cA h1) ⟨rfl, rfl, Nat.le_of_ble_eq_true rfl, Nat.le_of_ble_eq_true rfl⟩ rfl rfl hl.1 (Nat.le_of_ble_eq_true rfl) dL_law_779 hcs) (fun H locs G => ?_)
      refine lv_aload_n hx hb dL_law_782 rfl (lv_at hl 2 rfl) ?_
      refine zl_Mi Nn G (zl_run (rest := [.int r]) XM G.2.1 G.2.2 rc_7 tl_100 cv_X7_never kw_1173 (c_X7_never l D ad cA h2) ⟨rfl, rfl, Nat.le_of_ble_eq_true rfl, Nat.le_of_ble_eq_true rfl⟩ rfl rfl hl.1 (Nat.le_of_ble_eq_true rfl) dL_law_783 hcs) (fun H locs G => ?_)
      refine lv_icmp_eq (tgt := 1219) hx hb dL_law_786 (by decide) (fun _ => ?_) (fun c => absurd rfl c)
      exact hend μC1 μM1 H locs ls hR1 G hl
    have n24 := lv_neT (a := 24) cx (by decide)
    by_cases cx : y = (25 : Int32)
    · obtain ⟨r, μC1, μM1, h1, h2, hR1⟩ := op_was (xs (nI (6 * j) + (1 : Int32)).toNatClampNeg) (xs (nI (6 * j) + (2 : Int32)).toNatClampNeg) hR
      refine lv_tableIn (off := 758) (tgt := 791) hx hb dL_law_33 (by rw [cx]; decide) (by rw [cx]; decide) (by rw [cx]; rfl) (by decide) ?_
      refine lv_aload_n hx hb dL_law_791 rfl (lv_at hl 1 rfl) ?_
      refine lv_aload_n hx hb dL_law_792 rfl (lv_at hl 0 rfl) ?_
      refine lv_iload_n hx hb dL_law_793 rfl (lv_at hl 3 rfl) ?_
      refine lv_iconst (v := (1 : Int32)) hx hb dL_law_794 (by decide) ?_
      refine lv_iadd hx hb dL_law_795 ?_
      refine va_sld hx hb hX hbl hbA G.2.2 (zl_in hL hgo (k := 1) (by decide) rfl) dL_law_796 ?_
      refine lv_aload_n hx hb dL_law_797 rfl (lv_at hl 0 rfl) ?_
      refine lv_iload_n hx hb dL_law_798 rfl (lv_at hl 3 rfl) ?_
      refine lv_iconst (v := (2 : Int32)) hx hb dL_law_799 (by decide) ?_
      refine lv_iadd hx hb dL_law_800 ?_
      refine va_sld hx hb hX hbl hbA G.2.2 (zl_in hL hgo (k := 2) (by decide) rfl) dL_law_801 ?_
      refine zl_Ci Nn G (zl_run (rest := []) XC G.1 G.2.2 rc_6 tl_0 cv_X6_was kw_613 (c_X6_was l D ad cA h1) ⟨rfl, rfl, Nat.le_of_ble_eq_true rfl, Nat.le_of_ble_eq_true rfl⟩ rfl rfl hl.1 (Nat.le_of_ble_eq_true rfl) dL_law_802 hcs) (fun H locs G => ?_)
      refine lv_aload_n hx hb dL_law_805 rfl (lv_at hl 2 rfl) ?_
      refine lv_aload_n hx hb dL_law_806 rfl (lv_at hl 0 rfl) ?_
      refine lv_iload_n hx hb dL_law_807 rfl (lv_at hl 3 rfl) ?_
      refine lv_iconst (v := (1 : Int32)) hx hb dL_law_808 (by decide) ?_
      refine lv_iadd hx hb dL_law_809 ?_
      refine va_sld hx hb hX hbl hbA G.2.2 (zl_in hL hgo (k := 1) (by decide) rfl) dL_law_810 ?_
      refine lv_aload_n hx hb dL_law_811 rfl (lv_at hl 0 rfl) ?_
      refine lv_iload_n hx hb dL_law_812 rfl (lv_at hl 3 rfl) ?_
      refine lv_iconst (v := (2 : Int32)) hx hb dL_law_813 (by decide) ?_
      refine lv_iadd hx hb dL_law_814 ?_
      refine va_sld hx hb hX hbl hbA G.2.2 (zl_in hL hgo (k := 2) (by decide) rfl) dL_law_815 ?_
      refine zl_Mi Nn G (zl_run (rest := [.int r]) XM G.2.1 G.2.2 rc_7 tl_100 cv_X7_was kw_1185 (c_X7_was l D ad cA h2) ⟨rfl, rfl, Nat.le_of_ble_eq_true rfl, Nat.le_of_ble_eq_true rfl⟩ rfl rfl hl.1 (Nat.le_of_ble_eq_true rfl) dL_law_816 hcs) (fun H locs G => ?_)
      refine lv_icmp_eq (tgt := 1219) hx hb dL_law_819 (by decide) (fun _ => ?_) (fun c => absurd rfl c)
      exact hend μC1 μM1 H locs ls hR1 G hl
    have n25 := lv_neT (a := 25) cx (by decide)
    by_cases cx : y = (26 : Int32)
    · obtain ⟨r, μC1, μM1, h1, h2, hR1⟩ := op_ask (xs (nI (6 * j) + (1 : Int32)).toNatClampNeg) hR
      refine lv_tableIn (off := 791) (tgt := 824) hx hb dL_law_33 (by rw [cx]; decide) (by rw [cx]; decide) (by rw [cx]; rfl) (by decide) ?_
      refine lv_aload_n hx hb dL_law_824 rfl (lv_at hl 1 rfl) ?_
      refine lv_aload_n hx hb dL_law_825 rfl (lv_at hl 0 rfl) ?_
      refine lv_iload_n hx hb dL_law_826 rfl (lv_at hl 3 rfl) ?_
      refine lv_iconst (v := (1 : Int32)) hx hb dL_law_827 (by decide) ?_
      refine lv_iadd hx hb dL_law_828 ?_
      refine va_sld hx hb hX hbl hbA G.2.2 (zl_in hL hgo (k := 1) (by decide) rfl) dL_law_829 ?_
      refine zl_Ci Nn G (zl_run (rest := []) XC G.1 G.2.2 rc_6 tl_0 cv_X6_ask kw_625 (c_X6_ask l D ad cA h1) ⟨rfl, rfl, Nat.le_of_ble_eq_true rfl, Nat.le_of_ble_eq_true rfl⟩ rfl rfl hl.1 (Nat.le_of_ble_eq_true rfl) dL_law_830 hcs) (fun H locs G => ?_)
      refine lv_aload_n hx hb dL_law_833 rfl (lv_at hl 2 rfl) ?_
      refine lv_aload_n hx hb dL_law_834 rfl (lv_at hl 0 rfl) ?_
      refine lv_iload_n hx hb dL_law_835 rfl (lv_at hl 3 rfl) ?_
      refine lv_iconst (v := (1 : Int32)) hx hb dL_law_836 (by decide) ?_
      refine lv_iadd hx hb dL_law_837 ?_
      refine va_sld hx hb hX hbl hbA G.2.2 (zl_in hL hgo (k := 1) (by decide) rfl) dL_law_838 ?_
      refine zl_Mi Nn G (zl_run (rest := [.int r]) XM G.2.1 G.2.2 rc_7 tl_100 cv_X7_ask kw_1197 (c_X7_ask l D ad cA h2) ⟨rfl, rfl, Nat.le_of_ble_eq_true rfl, Nat.le_of_ble_eq_true rfl⟩ rfl rfl hl.1 (Nat.le_of_ble_eq_true rfl) dL_law_839 hcs) (fun H locs G => ?_)
      refine lv_icmp_eq (tgt := 1219) hx hb dL_law_842 (by decide) (fun _ => ?_) (fun c => absurd rfl c)
      exact hend μC1 μM1 H locs ls hR1 G hl
    have n26 := lv_neT (a := 26) cx (by decide)
    by_cases cx : y = (27 : Int32)
    · obtain ⟨r, μC1, μM1, h1, h2, hR1⟩ := op_chance (xs (nI (6 * j) + (1 : Int32)).toNatClampNeg) (xs (nI (6 * j) + (2 : Int32)).toNatClampNeg) (xs (nI (6 * j) + (3 : Int32)).toNatClampNeg) hR
      refine lv_tableIn (off := 814) (tgt := 847) hx hb dL_law_33 (by rw [cx]; decide) (by rw [cx]; decide) (by rw [cx]; rfl) (by decide) ?_
      refine lv_aload_n hx hb dL_law_847 rfl (lv_at hl 1 rfl) ?_
      refine lv_aload_n hx hb dL_law_848 rfl (lv_at hl 0 rfl) ?_
      refine lv_iload_n hx hb dL_law_849 rfl (lv_at hl 3 rfl) ?_
      refine lv_iconst (v := (1 : Int32)) hx hb dL_law_850 (by decide) ?_
      refine lv_iadd hx hb dL_law_851 ?_
      refine va_sld hx hb hX hbl hbA G.2.2 (zl_in hL hgo (k := 1) (by decide) rfl) dL_law_852 ?_
      refine lv_aload_n hx hb dL_law_853 rfl (lv_at hl 0 rfl) ?_
      refine lv_iload_n hx hb dL_law_854 rfl (lv_at hl 3 rfl) ?_
      refine lv_iconst (v := (2 : Int32)) hx hb dL_law_855 (by decide) ?_
      refine lv_iadd hx hb dL_law_856 ?_
      refine va_sld hx hb hX hbl hbA G.2.2 (zl_in hL hgo (k := 2) (by decide) rfl) dL_law_857 ?_
      refine lv_aload_n hx hb dL_law_858 rfl (lv_at hl 0 rfl) ?_
      refine lv_iload_n hx hb dL_law_859 rfl (lv_at hl 3 rfl) ?_
      refine lv_iconst (v := (3 : Int32)) hx hb dL_law_860 (by decide) ?_
      refine lv_iadd hx hb dL_law_861 ?_
      refine va_sld hx hb hX hbl hbA G.2.2 (zl_in hL hgo (k := 3) (by decide) rfl) dL_law_862 ?_
      refine zl_Cj Nn G (zl_run (rest := []) XC G.1 G.2.2 rc_6 tl_0 cv_X6_chance kw_643 (c_X6_chance l D ad cA h1) ⟨rfl, rfl, Nat.le_of_ble_eq_true rfl, Nat.le_of_ble_eq_true rfl⟩ rfl rfl hl.1 (Nat.le_of_ble_eq_true rfl) dL_law_863 hcs) (fun H locs G => ?_)
      refine lv_aload_n hx hb dL_law_866 rfl (lv_at hl 2 rfl) ?_
      refine lv_aload_n hx hb dL_law_867 rfl (lv_at hl 0 rfl) ?_
      refine lv_iload_n hx hb dL_law_868 rfl (lv_at hl 3 rfl) ?_
      refine lv_iconst (v := (1 : Int32)) hx hb dL_law_869 (by decide) ?_
      refine lv_iadd hx hb dL_law_870 ?_
      refine va_sld hx hb hX hbl hbA G.2.2 (zl_in hL hgo (k := 1) (by decide) rfl) dL_law_871 ?_
      refine lv_aload_n hx hb dL_law_872 rfl (lv_at hl 0 rfl) ?_
      refine lv_iload_n hx hb dL_law_873 rfl (lv_at hl 3 rfl) ?_
      refine lv_iconst (v := (2 : Int32)) hx hb dL_law_874 (by decide) ?_
      refine lv_iadd hx hb dL_law_875 ?_
      refine va_sld hx hb hX hbl hbA G.2.2 (zl_in hL hgo (k := 2) (by decide) rfl) dL_law_876 ?_
      refine lv_aload_n hx hb dL_law_877 rfl (lv_at hl 0 rfl) ?_
      refine lv_iload_n hx hb dL_law_878 rfl (lv_at hl 3 rfl) ?_
      refine lv_iconst (v := (3 : Int32)) hx hb dL_law_879 (by decide) ?_
      refine lv_iadd hx hb dL_law_880 ?_
      refine va_sld hx hb hX hbl hbA G.2.2 (zl_in hL hgo (k := 3) (by decide) rfl) dL_law_881 ?_
      refine zl_Mj Nn G (zl_run (rest := [.long r]) XM G.2.1 G.2.2 rc_7 tl_100 cv_X7_chance kw_1205 (c_X7_chance l D ad cA h2) ⟨rfl, rfl, Nat.le_of_ble_eq_true rfl, Nat.le_of_ble_eq_true rfl⟩ rfl rfl hl.1 (Nat.le_of_ble_eq_true rfl) dL_law_882 hcs) (fun H locs G => ?_)
      refine W.lcmp hx hb dL_law_885 ?_
      rw [show lg_cmp r r = 0 by simp [lg_cmp]]
      refine lv_if_eq (tgt := 1219) hx hb dL_law_886 (by decide) (fun _ => ?_) (fun c => absurd rfl c)
      exact hend μC1 μM1 H locs ls hR1 G hl
    have n27 := lv_neT (a := 27) cx (by decide)
    by_cases cx : y = (28 : Int32)
    · obtain ⟨r, μC1, μM1, h1, h2, hR1⟩ := op_years (xs (nI (6 * j) + (1 : Int32)).toNatClampNeg) (xs (nI (6 * j) + (2 : Int32)).toNatClampNeg) (xs (nI (6 * j) + (3 : Int32)).toNatClampNeg) hR
      refine lv_tableIn (off := 858) (tgt := 891) hx hb dL_law_33 (by rw [cx]; decide) (by rw [cx]; decide) (by rw [cx]; rfl) (by decide) ?_
      refine lv_aload_n hx hb dL_law_891 rfl (lv_at hl 1 rfl) ?_
      refine lv_aload_n hx hb dL_law_892 rfl (lv_at hl 0 rfl) ?_
      refine lv_iload_n hx hb dL_law_893 rfl (lv_at hl 3 rfl) ?_
      refine lv_iconst (v := (1 : Int32)) hx hb dL_law_894 (by decide) ?_
      refine lv_iadd hx hb dL_law_895 ?_
      refine va_sld hx hb hX hbl hbA G.2.2 (zl_in hL hgo (k := 1) (by decide) rfl) dL_law_896 ?_
      refine lv_aload_n hx hb dL_law_897 rfl (lv_at hl 0 rfl) ?_
      refine lv_iload_n hx hb dL_law_898 rfl (lv_at hl 3 rfl) ?_
      refine lv_iconst (v := (2 : Int32)) hx hb dL_law_899 (by decide) ?_
      refine lv_iadd hx hb dL_law_900 ?_
      refine va_sld hx hb hX hbl hbA G.2.2 (zl_in hL hgo (k := 2) (by decide) rfl) dL_law_901 ?_
      refine lv_aload_n hx hb dL_law_902 rfl (lv_at hl 0 rfl) ?_
      refine lv_iload_n hx hb dL_law_903 rfl (lv_at hl 3 rfl) ?_
      refine lv_iconst (v := (3 : Int32)) hx hb dL_law_904 (by decide) ?_
      refine lv_iadd hx hb dL_law_905 ?_
      refine va_sld hx hb hX hbl hbA G.2.2 (zl_in hL hgo (k := 3) (by decide) rfl) dL_law_906 ?_
      refine zl_Ci Nn G (zl_run (rest := []) XC G.1 G.2.2 rc_6 tl_0 cv_X6_years kw_663 (c_X6_years l D ad cA h1) ⟨rfl, rfl, Nat.le_of_ble_eq_true rfl, Nat.le_of_ble_eq_true rfl⟩ rfl rfl hl.1 (Nat.le_of_ble_eq_true rfl) dL_law_907 hcs) (fun H locs G => ?_)
      refine lv_aload_n hx hb dL_law_910 rfl (lv_at hl 2 rfl) ?_
      refine lv_aload_n hx hb dL_law_911 rfl (lv_at hl 0 rfl) ?_
      refine lv_iload_n hx hb dL_law_912 rfl (lv_at hl 3 rfl) ?_
      refine lv_iconst (v := (1 : Int32)) hx hb dL_law_913 (by decide) ?_
      refine lv_iadd hx hb dL_law_914 ?_
      refine va_sld hx hb hX hbl hbA G.2.2 (zl_in hL hgo (k := 1) (by decide) rfl) dL_law_915 ?_
      refine lv_aload_n hx hb dL_law_916 rfl (lv_at hl 0 rfl) ?_
      refine lv_iload_n hx hb dL_law_917 rfl (lv_at hl 3 rfl) ?_
      refine lv_iconst (v := (2 : Int32)) hx hb dL_law_918 (by decide) ?_
      refine lv_iadd hx hb dL_law_919 ?_
      refine va_sld hx hb hX hbl hbA G.2.2 (zl_in hL hgo (k := 2) (by decide) rfl) dL_law_920 ?_
      refine lv_aload_n hx hb dL_law_921 rfl (lv_at hl 0 rfl) ?_
      refine lv_iload_n hx hb dL_law_922 rfl (lv_at hl 3 rfl) ?_
      refine lv_iconst (v := (3 : Int32)) hx hb dL_law_923 (by decide) ?_
      refine lv_iadd hx hb dL_law_924 ?_
      refine va_sld hx hb hX hbl hbA G.2.2 (zl_in hL hgo (k := 3) (by decide) rfl) dL_law_925 ?_
      refine zl_Mi Nn G (zl_run (rest := [.int r]) XM G.2.1 G.2.2 rc_7 tl_100 cv_X7_years kw_1220 (c_X7_years l D ad cA h2) ⟨rfl, rfl, Nat.le_of_ble_eq_true rfl, Nat.le_of_ble_eq_true rfl⟩ rfl rfl hl.1 (Nat.le_of_ble_eq_true rfl) dL_law_926 hcs) (fun H locs G => ?_)
      refine lv_icmp_eq (tgt := 1219) hx hb dL_law_929 (by decide) (fun _ => ?_) (fun c => absurd rfl c)
      exact hend μC1 μM1 H locs ls hR1 G hl
    have n28 := lv_neT (a := 28) cx (by decide)
    by_cases cx : y = (29 : Int32)
    · obtain ⟨r, μC1, μM1, h1, h2, hR1⟩ := op_sheet (xs (nI (6 * j) + (1 : Int32)).toNatClampNeg) (xs (nI (6 * j) + (2 : Int32)).toNatClampNeg) (xs (nI (6 * j) + (3 : Int32)).toNatClampNeg) hR
      refine lv_tableIn (off := 901) (tgt := 934) hx hb dL_law_33 (by rw [cx]; decide) (by rw [cx]; decide) (by rw [cx]; rfl) (by decide) ?_
      refine lv_aload_n hx hb dL_law_934 rfl (lv_at hl 1 rfl) ?_
      refine lv_aload_n hx hb dL_law_935 rfl (lv_at hl 0 rfl) ?_
      refine lv_iload_n hx hb dL_law_936 rfl (lv_at hl 3 rfl) ?_
      refine lv_iconst (v := (1 : Int32)) hx hb dL_law_937 (by decide) ?_
      refine lv_iadd hx hb dL_law_938 ?_
      refine va_sld hx hb hX hbl hbA G.2.2 (zl_in hL hgo (k := 1) (by decide) rfl) dL_law_939 ?_
      refine lv_aload_n hx hb dL_law_940 rfl (lv_at hl 0 rfl) ?_
      refine lv_iload_n hx hb dL_law_941 rfl (lv_at hl 3 rfl) ?_
      refine lv_iconst (v := (2 : Int32)) hx hb dL_law_942 (by decide) ?_
      refine lv_iadd hx hb dL_law_943 ?_
      refine va_sld hx hb hX hbl hbA G.2.2 (zl_in hL hgo (k := 2) (by decide) rfl) dL_law_944 ?_
      refine lv_aload_n hx hb dL_law_945 rfl (lv_at hl 0 rfl) ?_
      refine lv_iload_n hx hb dL_law_946 rfl (lv_at hl 3 rfl) ?_
      refine lv_iconst (v := (3 : Int32)) hx hb dL_law_947 (by decide) ?_
      refine lv_iadd hx hb dL_law_948 ?_
      refine va_sld hx hb hX hbl hbA G.2.2 (zl_in hL hgo (k := 3) (by decide) rfl) dL_law_949 ?_
      refine zl_Ci Nn G (zl_run (rest := []) XC G.1 G.2.2 rc_6 tl_0 cv_X6_sheet kw_679 (c_X6_sheet l D ad cA h1) ⟨rfl, rfl, Nat.le_of_ble_eq_true rfl, Nat.le_of_ble_eq_true rfl⟩ rfl rfl hl.1 (Nat.le_of_ble_eq_true rfl) dL_law_950 hcs) (fun H locs G => ?_)
      refine lv_aload_n hx hb dL_law_953 rfl (lv_at hl 2 rfl) ?_
      refine lv_aload_n hx hb dL_law_954 rfl (lv_at hl 0 rfl) ?_
      refine lv_iload_n hx hb dL_law_955 rfl (lv_at hl 3 rfl) ?_
      refine lv_iconst (v := (1 : Int32)) hx hb dL_law_956 (by decide) ?_
      refine lv_iadd hx hb dL_law_957 ?_
      refine va_sld hx hb hX hbl hbA G.2.2 (zl_in hL hgo (k := 1) (by decide) rfl) dL_law_958 ?_
      refine lv_aload_n hx hb dL_law_959 rfl (lv_at hl 0 rfl) ?_
      refine lv_iload_n hx hb dL_law_960 rfl (lv_at hl 3 rfl) ?_
      refine lv_iconst (v := (2 : Int32)) hx hb dL_law_961 (by decide) ?_
      refine lv_iadd hx hb dL_law_962 ?_
      refine va_sld hx hb hX hbl hbA G.2.2 (zl_in hL hgo (k := 2) (by decide) rfl) dL_law_963 ?_
      refine lv_aload_n hx hb dL_law_964 rfl (lv_at hl 0 rfl) ?_
      refine lv_iload_n hx hb dL_law_965 rfl (lv_at hl 3 rfl) ?_
      refine lv_iconst (v := (3 : Int32)) hx hb dL_law_966 (by decide) ?_
      refine lv_iadd hx hb dL_law_967 ?_
      refine va_sld hx hb hX hbl hbA G.2.2 (zl_in hL hgo (k := 3) (by decide) rfl) dL_law_968 ?_
      refine zl_Mi Nn G (zl_run (rest := [.int r]) XM G.2.1 G.2.2 rc_7 tl_100 cv_X7_sheet kw_1229 (c_X7_sheet l D ad cA h2) ⟨rfl, rfl, Nat.le_of_ble_eq_true rfl, Nat.le_of_ble_eq_true rfl⟩ rfl rfl hl.1 (Nat.le_of_ble_eq_true rfl) dL_law_969 hcs) (fun H locs G => ?_)
      refine lv_icmp_eq (tgt := 1219) hx hb dL_law_972 (by decide) (fun _ => ?_) (fun c => absurd rfl c)
      exact hend μC1 μM1 H locs ls hR1 G hl
    have n29 := lv_neT (a := 29) cx (by decide)
    by_cases cx : y = (30 : Int32)
    · obtain ⟨r, μC1, μM1, h1, h2, hR1⟩ := op_lose (xs (nI (6 * j) + (1 : Int32)).toNatClampNeg) hR
      refine lv_tableIn (off := 944) (tgt := 977) hx hb dL_law_33 (by rw [cx]; decide) (by rw [cx]; decide) (by rw [cx]; rfl) (by decide) ?_
      refine lv_aload_n hx hb dL_law_977 rfl (lv_at hl 1 rfl) ?_
      refine lv_aload_n hx hb dL_law_978 rfl (lv_at hl 0 rfl) ?_
      refine lv_iload_n hx hb dL_law_979 rfl (lv_at hl 3 rfl) ?_
      refine lv_iconst (v := (1 : Int32)) hx hb dL_law_980 (by decide) ?_
      refine lv_iadd hx hb dL_law_981 ?_
      refine va_sld hx hb hX hbl hbA G.2.2 (zl_in hL hgo (k := 1) (by decide) rfl) dL_law_982 ?_
      refine zl_Ci Nn G (zl_run (rest := []) XC G.1 G.2.2 rc_6 tl_0 cv_X6_lose kw_690 (c_X6_lose l D ad cA h1) ⟨rfl, rfl, Nat.le_of_ble_eq_true rfl, Nat.le_of_ble_eq_true rfl⟩ rfl rfl hl.1 (Nat.le_of_ble_eq_true rfl) dL_law_983 hcs) (fun H locs G => ?_)
      refine lv_aload_n hx hb dL_law_986 rfl (lv_at hl 2 rfl) ?_
      refine lv_aload_n hx hb dL_law_987 rfl (lv_at hl 0 rfl) ?_
      refine lv_iload_n hx hb dL_law_988 rfl (lv_at hl 3 rfl) ?_
      refine lv_iconst (v := (1 : Int32)) hx hb dL_law_989 (by decide) ?_
      refine lv_iadd hx hb dL_law_990 ?_
      refine va_sld hx hb hX hbl hbA G.2.2 (zl_in hL hgo (k := 1) (by decide) rfl) dL_law_991 ?_
      refine zl_Mi Nn G (zl_run (rest := [.int r]) XM G.2.1 G.2.2 rc_7 tl_100 cv_X7_lose kw_1233 (c_X7_lose l D ad cA h2) ⟨rfl, rfl, Nat.le_of_ble_eq_true rfl, Nat.le_of_ble_eq_true rfl⟩ rfl rfl hl.1 (Nat.le_of_ble_eq_true rfl) dL_law_992 hcs) (fun H locs G => ?_)
      refine lv_icmp_eq (tgt := 1219) hx hb dL_law_995 (by decide) (fun _ => ?_) (fun c => absurd rfl c)
      exact hend μC1 μM1 H locs ls hR1 G hl
    have n30 := lv_neT (a := 30) cx (by decide)
    by_cases cx : y = (31 : Int32)
    · obtain ⟨r, μC1, μM1, h1, h2, hR1⟩ := op_put (xs (nI (6 * j) + (1 : Int32)).toNatClampNeg) (xs (nI (6 * j) + (2 : Int32)).toNatClampNeg) (xs (nI (6 * j) + (3 : Int32)).toNatClampNeg) (xs (nI (6 * j) + (4 : Int32)).toNatClampNeg) hR
      refine lv_tableIn (off := 967) (tgt := 1000) hx hb dL_law_33 (by rw [cx]; decide) (by rw [cx]; decide) (by rw [cx]; rfl) (by decide) ?_
      refine lv_aload_n hx hb dL_law_1000 rfl (lv_at hl 1 rfl) ?_
      refine lv_aload_n hx hb dL_law_1001 rfl (lv_at hl 0 rfl) ?_
      refine lv_iload_n hx hb dL_law_1002 rfl (lv_at hl 3 rfl) ?_
      refine lv_iconst (v := (1 : Int32)) hx hb dL_law_1003 (by decide) ?_
      refine lv_iadd hx hb dL_law_1004 ?_
      refine va_sld hx hb hX hbl hbA G.2.2 (zl_in hL hgo (k := 1) (by decide) rfl) dL_law_1005 ?_
      refine lv_aload_n hx hb dL_law_1006 rfl (lv_at hl 0 rfl) ?_
      refine lv_iload_n hx hb dL_law_1007 rfl (lv_at hl 3 rfl) ?_
      refine lv_iconst (v := (2 : Int32)) hx hb dL_law_1008 (by decide) ?_
      refine lv_iadd hx hb dL_law_1009 ?_
      refine va_sld hx hb hX hbl hbA G.2.2 (zl_in hL hgo (k := 2) (by decide) rfl) dL_law_1010 ?_
      refine lv_aload_n hx hb dL_law_1011 rfl (lv_at hl 0 rfl) ?_
      refine lv_iload_n hx hb dL_law_1012 rfl (lv_at hl 3 rfl) ?_
      refine lv_iconst (v := (3 : Int32)) hx hb dL_law_1013 (by decide) ?_
      refine lv_iadd hx hb dL_law_1014 ?_
      refine va_sld hx hb hX hbl hbA G.2.2 (zl_in hL hgo (k := 3) (by decide) rfl) dL_law_1015 ?_
      refine lv_aload_n hx hb dL_law_1016 rfl (lv_at hl 0 rfl) ?_
      refine lv_iload_n hx hb dL_law_1017 rfl (lv_at hl 3 rfl) ?_
      refine lv_iconst (v := (4 : Int32)) hx hb dL_law_1018 (by decide) ?_
      refine lv_iadd hx hb dL_law_1019 ?_
      refine va_sld hx hb hX hbl hbA G.2.2 (zl_in hL hgo (k := 4) (by decide) rfl) dL_law_1020 ?_
      refine zl_Ci Nn G (zl_run (rest := []) XC G.1 G.2.2 rc_6 tl_0 cv_X6_put kw_698 (c_X6_put l D ad cA h1) ⟨rfl, rfl, Nat.le_of_ble_eq_true rfl, Nat.le_of_ble_eq_true rfl⟩ rfl rfl hl.1 (Nat.le_of_ble_eq_true rfl) dL_law_1021 hcs) (fun H locs G => ?_)
      refine lv_aload_n hx hb dL_law_1024 rfl (lv_at hl 2 rfl) ?_
      refine lv_aload_n hx hb dL_law_1025 rfl (lv_at hl 0 rfl) ?_
      refine lv_iload_n hx hb dL_law_1026 rfl (lv_at hl 3 rfl) ?_
      refine lv_iconst (v := (1 : Int32)) hx hb dL_law_1027 (by decide) ?_
      refine lv_iadd hx hb dL_law_1028 ?_
      refine va_sld hx hb hX hbl hbA G.2.2 (zl_in hL hgo (k := 1) (by decide) rfl) dL_law_1029 ?_
      refine lv_aload_n hx hb dL_law_1030 rfl (lv_at hl 0 rfl) ?_
      refine lv_iload_n hx hb dL_law_1031 rfl (lv_at hl 3 rfl) ?_
      refine lv_iconst (v := (2 : Int32)) hx hb dL_law_1032 (by decide) ?_
      refine lv_iadd hx hb dL_law_1033 ?_
      refine va_sld hx hb hX hbl hbA G.2.2 (zl_in hL hgo (k := 2) (by decide) rfl) dL_law_1034 ?_
      refine lv_aload_n hx hb dL_law_1035 rfl (lv_at hl 0 rfl) ?_
      refine lv_iload_n hx hb dL_law_1036 rfl (lv_at hl 3 rfl) ?_
      refine lv_iconst (v := (3 : Int32)) hx hb dL_law_1037 (by decide) ?_
      refine lv_iadd hx hb dL_law_1038 ?_
      refine va_sld hx hb hX hbl hbA G.2.2 (zl_in hL hgo (k := 3) (by decide) rfl) dL_law_1039 ?_
      refine lv_aload_n hx hb dL_law_1040 rfl (lv_at hl 0 rfl) ?_
      refine lv_iload_n hx hb dL_law_1041 rfl (lv_at hl 3 rfl) ?_
      refine lv_iconst (v := (4 : Int32)) hx hb dL_law_1042 (by decide) ?_
      refine lv_iadd hx hb dL_law_1043 ?_
      refine va_sld hx hb hX hbl hbA G.2.2 (zl_in hL hgo (k := 4) (by decide) rfl) dL_law_1044 ?_
      refine zl_Mi Nn G (zl_run (rest := [.int r]) XM G.2.1 G.2.2 rc_7 tl_100 cv_X7_put kw_1237 (c_X7_put l D ad cA h2) ⟨rfl, rfl, Nat.le_of_ble_eq_true rfl, Nat.le_of_ble_eq_true rfl⟩ rfl rfl hl.1 (Nat.le_of_ble_eq_true rfl) dL_law_1045 hcs) (fun H locs G => ?_)
      refine lv_icmp_eq (tgt := 1219) hx hb dL_law_1048 (by decide) (fun _ => ?_) (fun c => absurd rfl c)
      exact hend μC1 μM1 H locs ls hR1 G hl
    have n31 := lv_neT (a := 31) cx (by decide)
    by_cases cx : y = (32 : Int32)
    · obtain ⟨r, μC1, μM1, h1, h2, hR1⟩ := op_get (xs (nI (6 * j) + (1 : Int32)).toNatClampNeg) (xs (nI (6 * j) + (2 : Int32)).toNatClampNeg) (xs (nI (6 * j) + (3 : Int32)).toNatClampNeg) hR
      refine lv_tableIn (off := 1020) (tgt := 1053) hx hb dL_law_33 (by rw [cx]; decide) (by rw [cx]; decide) (by rw [cx]; rfl) (by decide) ?_
      refine lv_aload_n hx hb dL_law_1053 rfl (lv_at hl 1 rfl) ?_
      refine lv_aload_n hx hb dL_law_1054 rfl (lv_at hl 0 rfl) ?_
      refine lv_iload_n hx hb dL_law_1055 rfl (lv_at hl 3 rfl) ?_
      refine lv_iconst (v := (1 : Int32)) hx hb dL_law_1056 (by decide) ?_
      refine lv_iadd hx hb dL_law_1057 ?_
      refine va_sld hx hb hX hbl hbA G.2.2 (zl_in hL hgo (k := 1) (by decide) rfl) dL_law_1058 ?_
      refine lv_aload_n hx hb dL_law_1059 rfl (lv_at hl 0 rfl) ?_
      refine lv_iload_n hx hb dL_law_1060 rfl (lv_at hl 3 rfl) ?_
      refine lv_iconst (v := (2 : Int32)) hx hb dL_law_1061 (by decide) ?_
      refine lv_iadd hx hb dL_law_1062 ?_
      refine va_sld hx hb hX hbl hbA G.2.2 (zl_in hL hgo (k := 2) (by decide) rfl) dL_law_1063 ?_
      refine lv_aload_n hx hb dL_law_1064 rfl (lv_at hl 0 rfl) ?_
      refine lv_iload_n hx hb dL_law_1065 rfl (lv_at hl 3 rfl) ?_
      refine lv_iconst (v := (3 : Int32)) hx hb dL_law_1066 (by decide) ?_
      refine lv_iadd hx hb dL_law_1067 ?_
      refine va_sld hx hb hX hbl hbA G.2.2 (zl_in hL hgo (k := 3) (by decide) rfl) dL_law_1068 ?_
      refine zl_Ci Nn G (zl_run (rest := []) XC G.1 G.2.2 rc_6 tl_0 cv_X6_get kw_712 (c_X6_get l D ad cA h1) ⟨rfl, rfl, Nat.le_of_ble_eq_true rfl, Nat.le_of_ble_eq_true rfl⟩ rfl rfl hl.1 (Nat.le_of_ble_eq_true rfl) dL_law_1069 hcs) (fun H locs G => ?_)
      refine lv_aload_n hx hb dL_law_1072 rfl (lv_at hl 2 rfl) ?_
      refine lv_aload_n hx hb dL_law_1073 rfl (lv_at hl 0 rfl) ?_
      refine lv_iload_n hx hb dL_law_1074 rfl (lv_at hl 3 rfl) ?_
      refine lv_iconst (v := (1 : Int32)) hx hb dL_law_1075 (by decide) ?_
      refine lv_iadd hx hb dL_law_1076 ?_
      refine va_sld hx hb hX hbl hbA G.2.2 (zl_in hL hgo (k := 1) (by decide) rfl) dL_law_1077 ?_
      refine lv_aload_n hx hb dL_law_1078 rfl (lv_at hl 0 rfl) ?_
      refine lv_iload_n hx hb dL_law_1079 rfl (lv_at hl 3 rfl) ?_
      refine lv_iconst (v := (2 : Int32)) hx hb dL_law_1080 (by decide) ?_
      refine lv_iadd hx hb dL_law_1081 ?_
      refine va_sld hx hb hX hbl hbA G.2.2 (zl_in hL hgo (k := 2) (by decide) rfl) dL_law_1082 ?_
      refine lv_aload_n hx hb dL_law_1083 rfl (lv_at hl 0 rfl) ?_
      refine lv_iload_n hx hb dL_law_1084 rfl (lv_at hl 3 rfl) ?_
      refine lv_iconst (v := (3 : Int32)) hx hb dL_law_1085 (by decide) ?_
      refine lv_iadd hx hb dL_law_1086 ?_
      refine va_sld hx hb hX hbl hbA G.2.2 (zl_in hL hgo (k := 3) (by decide) rfl) dL_law_1087 ?_
      refine zl_Mi Nn G (zl_run (rest := [.int r]) XM G.2.1 G.2.2 rc_7 tl_100 cv_X7_get kw_1249 (c_X7_get l D ad cA h2) ⟨rfl, rfl, Nat.le_of_ble_eq_true rfl, Nat.le_of_ble_eq_true rfl⟩ rfl rfl hl.1 (Nat.le_of_ble_eq_true rfl) dL_law_1088 hcs) (fun H locs G => ?_)
      refine lv_icmp_eq (tgt := 1219) hx hb dL_law_1091 (by decide) (fun _ => ?_) (fun c => absurd rfl c)
      exact hend μC1 μM1 H locs ls hR1 G hl
    have n32 := lv_neT (a := 32) cx (by decide)
    by_cases cx : y = (33 : Int32)
    · obtain ⟨r, μC1, μM1, h1, h2, hR1⟩ := op_copy (xs (nI (6 * j) + (1 : Int32)).toNatClampNeg) (xs (nI (6 * j) + (2 : Int32)).toNatClampNeg) (xs (nI (6 * j) + (3 : Int32)).toNatClampNeg) (xs (nI (6 * j) + (4 : Int32)).toNatClampNeg) (xs (nI (6 * j) + (5 : Int32)).toNatClampNeg) hR
      refine lv_tableIn (off := 1063) (tgt := 1096) hx hb dL_law_33 (by rw [cx]; decide) (by rw [cx]; decide) (by rw [cx]; rfl) (by decide) ?_
      refine lv_aload_n hx hb dL_law_1096 rfl (lv_at hl 1 rfl) ?_
      refine lv_aload_n hx hb dL_law_1097 rfl (lv_at hl 0 rfl) ?_
      refine lv_iload_n hx hb dL_law_1098 rfl (lv_at hl 3 rfl) ?_
      refine lv_iconst (v := (1 : Int32)) hx hb dL_law_1099 (by decide) ?_
      refine lv_iadd hx hb dL_law_1100 ?_
      refine va_sld hx hb hX hbl hbA G.2.2 (zl_in hL hgo (k := 1) (by decide) rfl) dL_law_1101 ?_
      refine lv_aload_n hx hb dL_law_1102 rfl (lv_at hl 0 rfl) ?_
      refine lv_iload_n hx hb dL_law_1103 rfl (lv_at hl 3 rfl) ?_
      refine lv_iconst (v := (2 : Int32)) hx hb dL_law_1104 (by decide) ?_
      refine lv_iadd hx hb dL_law_1105 ?_
      refine va_sld hx hb hX hbl hbA G.2.2 (zl_in hL hgo (k := 2) (by decide) rfl) dL_law_1106 ?_
      refine lv_aload_n hx hb dL_law_1107 rfl (lv_at hl 0 rfl) ?_
      refine lv_iload_n hx hb dL_law_1108 rfl (lv_at hl 3 rfl) ?_
      refine lv_iconst (v := (3 : Int32)) hx hb dL_law_1109 (by decide) ?_
      refine lv_iadd hx hb dL_law_1110 ?_
      refine va_sld hx hb hX hbl hbA G.2.2 (zl_in hL hgo (k := 3) (by decide) rfl) dL_law_1111 ?_
      refine lv_aload_n hx hb dL_law_1112 rfl (lv_at hl 0 rfl) ?_
      refine lv_iload_n hx hb dL_law_1113 rfl (lv_at hl 3 rfl) ?_
      refine lv_iconst (v := (4 : Int32)) hx hb dL_law_1114 (by decide) ?_
      refine lv_iadd hx hb dL_law_1115 ?_
      refine va_sld hx hb hX hbl hbA G.2.2 (zl_in hL hgo (k := 4) (by decide) rfl) dL_law_1116 ?_
      refine lv_aload_n hx hb dL_law_1117 rfl (lv_at hl 0 rfl) ?_
      refine lv_iload_n hx hb dL_law_1118 rfl (lv_at hl 3 rfl) ?_
      refine lv_iconst (v := (5 : Int32)) hx hb dL_law_1119 (by decide) ?_
      refine lv_iadd hx hb dL_law_1120 ?_
      refine va_sld hx hb hX hbl hbA G.2.2 (zl_in hL hgo (k := 5) (by decide) rfl) dL_law_1121 ?_
      refine zl_Ci Nn G (zl_run (rest := []) XC G.1 G.2.2 rc_6 tl_0 cv_X6_copy kw_716 (c_X6_copy l D ad cA h1) ⟨rfl, rfl, Nat.le_of_ble_eq_true rfl, Nat.le_of_ble_eq_true rfl⟩ rfl rfl hl.1 (Nat.le_of_ble_eq_true rfl) dL_law_1122 hcs) (fun H locs G => ?_)
      refine lv_aload_n hx hb dL_law_1125 rfl (lv_at hl 2 rfl) ?_
      refine lv_aload_n hx hb dL_law_1126 rfl (lv_at hl 0 rfl) ?_
      refine lv_iload_n hx hb dL_law_1127 rfl (lv_at hl 3 rfl) ?_
      refine lv_iconst (v := (1 : Int32)) hx hb dL_law_1128 (by decide) ?_
      refine lv_iadd hx hb dL_law_1129 ?_
      refine va_sld hx hb hX hbl hbA G.2.2 (zl_in hL hgo (k := 1) (by decide) rfl) dL_law_1130 ?_
      refine lv_aload_n hx hb dL_law_1131 rfl (lv_at hl 0 rfl) ?_
      refine lv_iload_n hx hb dL_law_1132 rfl (lv_at hl 3 rfl) ?_
      refine lv_iconst (v := (2 : Int32)) hx hb dL_law_1133 (by decide) ?_
      refine lv_iadd hx hb dL_law_1134 ?_
      refine va_sld hx hb hX hbl hbA G.2.2 (zl_in hL hgo (k := 2) (by decide) rfl) dL_law_1135 ?_
      refine lv_aload_n hx hb dL_law_1136 rfl (lv_at hl 0 rfl) ?_
      refine lv_iload_n hx hb dL_law_1137 rfl (lv_at hl 3 rfl) ?_
      refine lv_iconst (v := (3 : Int32)) hx hb dL_law_1138 (by decide) ?_
      refine lv_iadd hx hb dL_law_1139 ?_
      refine va_sld hx hb hX hbl hbA G.2.2 (zl_in hL hgo (k := 3) (by decide) rfl) dL_law_1140 ?_
      refine lv_aload_n hx hb dL_law_1141 rfl (lv_at hl 0 rfl) ?_
      refine lv_iload_n hx hb dL_law_1142 rfl (lv_at hl 3 rfl) ?_
      refine lv_iconst (v := (4 : Int32)) hx hb dL_law_1143 (by decide) ?_
      refine lv_iadd hx hb dL_law_1144 ?_
      refine va_sld hx hb hX hbl hbA G.2.2 (zl_in hL hgo (k := 4) (by decide) rfl) dL_law_1145 ?_
      refine lv_aload_n hx hb dL_law_1146 rfl (lv_at hl 0 rfl) ?_
      refine lv_iload_n hx hb dL_law_1147 rfl (lv_at hl 3 rfl) ?_
      refine lv_iconst (v := (5 : Int32)) hx hb dL_law_1148 (by decide) ?_
      refine lv_iadd hx hb dL_law_1149 ?_
      refine va_sld hx hb hX hbl hbA G.2.2 (zl_in hL hgo (k := 5) (by decide) rfl) dL_law_1150 ?_
      refine zl_Mi Nn G (zl_run (rest := [.int r]) XM G.2.1 G.2.2 rc_7 tl_100 cv_X7_copy kw_1253 (c_X7_copy l D ad cA h2) ⟨rfl, rfl, Nat.le_of_ble_eq_true rfl, Nat.le_of_ble_eq_true rfl⟩ rfl rfl hl.1 (Nat.le_of_ble_eq_true rfl) dL_law_1151 hcs) (fun H locs G => ?_)
      refine lv_icmp_eq (tgt := 1219) hx hb dL_law_1154 (by decide) (fun _ => ?_) (fun c => absurd rfl c)
      exact hend μC1 μM1 H locs ls hR1 G hl
    have n33 := lv_neT (a := 33) cx (by decide)
    by_cases cx : y = (34 : Int32)
    · obtain ⟨r, μC1, μM1, h1, h2, hR1⟩ := op_write (xs (nI (6 * j) + (1 : Int32)).toNatClampNeg) hR
      refine lv_tableIn (off := 1126) (tgt := 1159) hx hb dL_law_33 (by rw [cx]; decide) (by rw [cx]; decide) (by rw [cx]; rfl) (by decide) ?_
      refine lv_aload_n hx hb dL_law_1159 rfl (lv_at hl 1 rfl) ?_
      refine lv_aload_n hx hb dL_law_1160 rfl (lv_at hl 0 rfl) ?_
      refine lv_iload_n hx hb dL_law_1161 rfl (lv_at hl 3 rfl) ?_
      refine lv_iconst (v := (1 : Int32)) hx hb dL_law_1162 (by decide) ?_
      refine lv_iadd hx hb dL_law_1163 ?_
      refine va_sld hx hb hX hbl hbA G.2.2 (zl_in hL hgo (k := 1) (by decide) rfl) dL_law_1164 ?_
      refine zl_Ci Nn G (zl_run (rest := []) XC G.1 G.2.2 rc_6 tl_0 cv_X6_write kw_727 (c_X6_write l D ad cA h1) ⟨rfl, rfl, Nat.le_of_ble_eq_true rfl, Nat.le_of_ble_eq_true rfl⟩ rfl rfl hl.1 (Nat.le_of_ble_eq_true rfl) dL_law_1165 hcs) (fun H locs G => ?_)
      refine lv_aload_n hx hb dL_law_1168 rfl (lv_at hl 2 rfl) ?_
      refine lv_aload_n hx hb dL_law_1169 rfl (lv_at hl 0 rfl) ?_
      refine lv_iload_n hx hb dL_law_1170 rfl (lv_at hl 3 rfl) ?_
      refine lv_iconst (v := (1 : Int32)) hx hb dL_law_1171 (by decide) ?_
      refine lv_iadd hx hb dL_law_1172 ?_
      refine va_sld hx hb hX hbl hbA G.2.2 (zl_in hL hgo (k := 1) (by decide) rfl) dL_law_1173 ?_
      refine zl_Mi Nn G (zl_run (rest := [.int r]) XM G.2.1 G.2.2 rc_7 tl_100 cv_X7_write kw_1257 (c_X7_write l D ad cA h2) ⟨rfl, rfl, Nat.le_of_ble_eq_true rfl, Nat.le_of_ble_eq_true rfl⟩ rfl rfl hl.1 (Nat.le_of_ble_eq_true rfl) dL_law_1174 hcs) (fun H locs G => ?_)
      refine lv_icmp_eq (tgt := 1219) hx hb dL_law_1177 (by decide) (fun _ => ?_) (fun c => absurd rfl c)
      exact hend μC1 μM1 H locs ls hR1 G hl
    have n34 := lv_neT (a := 34) cx (by decide)
    by_cases cx : y = (35 : Int32)
    · obtain ⟨r, μC1, μM1, h1, h2, hR1⟩ := op_count (xs (nI (6 * j) + (1 : Int32)).toNatClampNeg) hR
      refine lv_tableIn (off := 1149) (tgt := 1182) hx hb dL_law_33 (by rw [cx]; decide) (by rw [cx]; decide) (by rw [cx]; rfl) (by decide) ?_
      refine lv_aload_n hx hb dL_law_1182 rfl (lv_at hl 1 rfl) ?_
      refine lv_aload_n hx hb dL_law_1183 rfl (lv_at hl 0 rfl) ?_
      refine lv_iload_n hx hb dL_law_1184 rfl (lv_at hl 3 rfl) ?_
      refine lv_iconst (v := (1 : Int32)) hx hb dL_law_1185 (by decide) ?_
      refine lv_iadd hx hb dL_law_1186 ?_
      refine va_sld hx hb hX hbl hbA G.2.2 (zl_in hL hgo (k := 1) (by decide) rfl) dL_law_1187 ?_
      refine zl_Ci Nn G (zl_run (rest := []) XC G.1 G.2.2 rc_6 tl_0 cv_X6_count kw_732 (c_X6_count l D ad cA h1) ⟨rfl, rfl, Nat.le_of_ble_eq_true rfl, Nat.le_of_ble_eq_true rfl⟩ rfl rfl hl.1 (Nat.le_of_ble_eq_true rfl) dL_law_1188 hcs) (fun H locs G => ?_)
      refine lv_aload_n hx hb dL_law_1191 rfl (lv_at hl 2 rfl) ?_
      refine lv_aload_n hx hb dL_law_1192 rfl (lv_at hl 0 rfl) ?_
      refine lv_iload_n hx hb dL_law_1193 rfl (lv_at hl 3 rfl) ?_
      refine lv_iconst (v := (1 : Int32)) hx hb dL_law_1194 (by decide) ?_
      refine lv_iadd hx hb dL_law_1195 ?_
      refine va_sld hx hb hX hbl hbA G.2.2 (zl_in hL hgo (k := 1) (by decide) rfl) dL_law_1196 ?_
      refine zl_Mi Nn G (zl_run (rest := [.int r]) XM G.2.1 G.2.2 rc_7 tl_100 cv_X7_count kw_1261 (c_X7_count l D ad cA h2) ⟨rfl, rfl, Nat.le_of_ble_eq_true rfl, Nat.le_of_ble_eq_true rfl⟩ rfl rfl hl.1 (Nat.le_of_ble_eq_true rfl) dL_law_1197 hcs) (fun H locs G => ?_)
      refine lv_icmp_eq (tgt := 1219) hx hb dL_law_1200 (by decide) (fun _ => ?_) (fun c => absurd rfl c)
      exact hend μC1 μM1 H locs ls hR1 G hl
    have n35 := lv_neT (a := 35) cx (by decide)
    by_cases cx : y = (36 : Int32)
    · obtain ⟨r, μC1, μM1, h1, h2, hR1⟩ := op_digest  hR
      refine lv_tableIn (off := 1172) (tgt := 1205) hx hb dL_law_33 (by rw [cx]; decide) (by rw [cx]; decide) (by rw [cx]; rfl) (by decide) ?_
      refine lv_aload_n hx hb dL_law_1205 rfl (lv_at hl 1 rfl) ?_
      refine zl_Cj Nn G (zl_run (rest := []) XC G.1 G.2.2 rc_6 tl_0 cv_X6_digest kw_736 (c_X6_digest l D ad cA h1) ⟨rfl, rfl, Nat.le_of_ble_eq_true rfl, Nat.le_of_ble_eq_true rfl⟩ rfl rfl hl.1 (Nat.le_of_ble_eq_true rfl) dL_law_1206 hcs) (fun H locs G => ?_)
      refine lv_aload_n hx hb dL_law_1209 rfl (lv_at hl 2 rfl) ?_
      refine zl_Mj Nn G (zl_run (rest := [.long r]) XM G.2.1 G.2.2 rc_7 tl_100 cv_X7_digest kw_1273 (c_X7_digest l D ad cA h2) ⟨rfl, rfl, Nat.le_of_ble_eq_true rfl, Nat.le_of_ble_eq_true rfl⟩ rfl rfl hl.1 (Nat.le_of_ble_eq_true rfl) dL_law_1210 hcs) (fun H locs G => ?_)
      refine W.lcmp hx hb dL_law_1213 ?_
      rw [show lg_cmp r r = 0 by simp [lg_cmp]]
      refine lv_if_eq (tgt := 1219) hx hb dL_law_1214 (by decide) (fun _ => ?_) (fun c => absurd rfl c)
      exact hend μC1 μM1 H locs ls hR1 G hl
    have n36 := lv_neT (a := 36) cx (by decide)
    refine lv_tableOut (tgt := 1219) hx hb dL_law_33 (by omega) (by decide) ?_
    exact hend μC μM H locs ls hR G hl
