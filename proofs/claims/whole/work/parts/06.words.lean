-- WORDS, fields, types: rows that a program decides
theorem z_chk {h t : Nat} {P : Nat → Prop} [DecidablePred P] (e : zty h = t) (ht : ¬ t = 99) (hc : (List.range 138).all (fun i => !(zty i == t) || decide (P i)) = true) : P h := by
  by_cases hi : h < 138
  · have h1 := List.all_eq_true.mp hc h (List.mem_range.mpr hi)
    rw [e] at h1
    simpa using h1
  · exact absurd (e.symm.trans (zty_big (by omega))) ht
theorem zz_let {α : Type} {x : Int32} {kk : Int32 → Option α} {out : α} (h : vI x kk = some out) : ∃ y, x = y ∧ kk y = some out := ⟨x, rfl, h⟩
def jn {α β : Type} (t : β) (f : β → Option α) : Option α := f t
theorem zz_jn {α β : Type} {t : β} {f : β → Option α} {out : α} {P : β → Prop} (h : jn t f = some out) (ht : P t) : ∃ j, P j ∧ f j = some out := ⟨t, ht, h⟩
theorem zz_sw {α : Type} {x k : Int32} {a b : Option α} {out : α} {G : Prop} (h : (if x = k then a else b) = some out) (kt : x = k → a = some out → G) (kf : ¬ x = k → b = some out → G) : G := by
  by_cases c : x = k
  · rw [if_pos c] at h; exact kt c h
  · rw [if_neg c] at h; exact kf c h
theorem kw_0 : (.selects "ButlerWeather" yX6_told yX6_told : Cond) ∈ GT := gt_at 0 (by decide +kernel) (by decide +kernel)
theorem kw_1 : (.selects "ButlerWeather$House" yX2_gather yX2_gather : Cond) ∈ GT := gt_at 1 (by decide +kernel) (by decide +kernel)
theorem kw_2 : (.selects "ButlerWeather$House" yX2_receive yX2_receive : Cond) ∈ GT := gt_at 2 (by decide +kernel) (by decide +kernel)
theorem kw_3 : (.selects "ButlerWeather$House" yX2_letIn yX2_letIn : Cond) ∈ GT := gt_at 3 (by decide +kernel) (by decide +kernel)
theorem kw_4 : (.selects "ButlerWeather$House" yX2_openDoor yX2_openDoor : Cond) ∈ GT := gt_at 4 (by decide +kernel) (by decide +kernel)
theorem kw_5 : (.selects "ButlerWeather$House" yX2_sendSunshines yX2_sendSunshines : Cond) ∈ GT := gt_at 5 (by decide +kernel) (by decide +kernel)
theorem kw_6 : (.selects "ButlerWeather$House" yX2_longestInvited yX2_longestInvited : Cond) ∈ GT := gt_at 6 (by decide +kernel) (by decide +kernel)
theorem kw_7 : (.selects "ButlerWeather$House" yX2_sendWeary yX2_sendWeary : Cond) ∈ GT := gt_at 7 (by decide +kernel) (by decide +kernel)
theorem kw_8 : (.selects "ButlerWeather" yX6_addCard yX6_addCard : Cond) ∈ GT := gt_at 8 (by decide +kernel) (by decide +kernel)
theorem kw_9 : (.selects "ButlerWeather" yX6_found yX6_found : Cond) ∈ GT := gt_at 9 (by decide +kernel) (by decide +kernel)
theorem kw_10 : (.selects "ButlerWeather$House" yX2_warmer yX2_warmer : Cond) ∈ GT := gt_at 10 (by decide +kernel) (by decide +kernel)
theorem kw_11 : (.selects "ButlerWeather$House" yX2_thoseWithADay yX2_thoseWithADay : Cond) ∈ GT := gt_at 11 (by decide +kernel) (by decide +kernel)
theorem kw_12 : (.selects "ButlerWeather" yX6_cardsToBurn yX6_cardsToBurn : Cond) ∈ GT := gt_at 12 (by decide +kernel) (by decide +kernel)
theorem kw_13 : (.selects "ButlerWeather" yX6_noFrostWithout yX6_noFrostWithout : Cond) ∈ GT := gt_at 13 (by decide +kernel) (by decide +kernel)
theorem kw_14 : (.selects "ButlerWeather" yX6_sortsThatFit yX6_sortsThatFit : Cond) ∈ GT := gt_at 14 (by decide +kernel) (by decide +kernel)
theorem kw_15 : (.selects "ButlerWeather" yX6_waitsThatFit yX6_waitsThatFit : Cond) ∈ GT := gt_at 15 (by decide +kernel) (by decide +kernel)
theorem kw_16 : (.selects "ButlerWeather" yX6_inviteByLots yX6_inviteByLots : Cond) ∈ GT := gt_at 16 (by decide +kernel) (by decide +kernel)
theorem kw_17 : (.selects "ButlerWeather" yX6_digestMen yX6_digestMen : Cond) ∈ GT := gt_at 17 (by decide +kernel) (by decide +kernel)
theorem kw_18 : (.selects "ButlerWeather" yX6_digestCallers yX6_digestCallers : Cond) ∈ GT := gt_at 18 (by decide +kernel) (by decide +kernel)
theorem kw_19 : (.selects "ButlerWeather" yX6_digestDays yX6_digestDays : Cond) ∈ GT := gt_at 19 (by decide +kernel) (by decide +kernel)
theorem kw_20 : (.selects "ButlerWeatherModel" yX7_faultOf yX7_faultOf : Cond) ∈ GT := gt_at 20 (by decide +kernel) (by decide +kernel)
theorem kw_21 : (.selects "ButlerWeatherModel" yX7_readsParts yX7_readsParts : Cond) ∈ GT := gt_at 21 (by decide +kernel) (by decide +kernel)
theorem kw_22 : (.selects "ButlerWeatherModel" yX7_readsCaller yX7_readsCaller : Cond) ∈ GT := gt_at 22 (by decide +kernel) (by decide +kernel)
theorem kw_23 : (.selects "ButlerWeatherModel" yX7_byteAt yX7_byteAt : Cond) ∈ GT := gt_at 23 (by decide +kernel) (by decide +kernel)
theorem kw_24 : (.selects "ButlerWeatherModel" yX7_readsMan yX7_readsMan : Cond) ∈ GT := gt_at 24 (by decide +kernel) (by decide +kernel)
theorem kw_25 : (.selects "ButlerWeatherModel" yX7_isCaller yX7_isCaller : Cond) ∈ GT := gt_at 25 (by decide +kernel) (by decide +kernel)
theorem kw_26 : (.selects "ButlerWeatherModel" yX7_reads yX7_reads : Cond) ∈ GT := gt_at 26 (by decide +kernel) (by decide +kernel)
theorem kw_27 : (.selects "ButlerWeatherModel" yX7_callerOf yX7_callerOf : Cond) ∈ GT := gt_at 27 (by decide +kernel) (by decide +kernel)
theorem kw_28 : (.selects "ButlerWeatherModel" yX7_isMan yX7_isMan : Cond) ∈ GT := gt_at 28 (by decide +kernel) (by decide +kernel)
theorem kw_29 : (.selects "ButlerWeatherModel" yX7_manOf yX7_manOf : Cond) ∈ GT := gt_at 29 (by decide +kernel) (by decide +kernel)
theorem kw_30 : (.selects "ButlerWeatherModel" yX7_meets yX7_meets : Cond) ∈ GT := gt_at 30 (by decide +kernel) (by decide +kernel)
theorem kw_31 : (.selects "ButlerWeatherModel" yX7_standsOf yX7_standsOf : Cond) ∈ GT := gt_at 31 (by decide +kernel) (by decide +kernel)
theorem kw_32 : (.selects "ButlerWeatherModel" yX7_runsTold yX7_runsTold : Cond) ∈ GT := gt_at 32 (by decide +kernel) (by decide +kernel)
theorem kw_33 : (.selects "ButlerWeatherModel" yX7_asTold yX7_asTold : Cond) ∈ GT := gt_at 33 (by decide +kernel) (by decide +kernel)
theorem kw_34 : (.selects "ButlerWeatherModel" yX7_runs yX7_runs : Cond) ∈ GT := gt_at 34 (by decide +kernel) (by decide +kernel)
theorem kw_35 : (.selects "ButlerWeatherModel" yX7_goesBy yX7_goesBy : Cond) ∈ GT := gt_at 35 (by decide +kernel) (by decide +kernel)
theorem kw_36 : (.selects "ButlerWeatherModel" yX7_arrives yX7_arrives : Cond) ∈ GT := gt_at 36 (by decide +kernel) (by decide +kernel)
theorem kw_37 : (.selects "ButlerWeatherModel" yX7_letsIn yX7_letsIn : Cond) ∈ GT := gt_at 37 (by decide +kernel) (by decide +kernel)
theorem kw_38 : (.selects "ButlerWeatherModel" yX7_onDuty yX7_onDuty : Cond) ∈ GT := gt_at 38 (by decide +kernel) (by decide +kernel)
theorem kw_39 : (.selects "ButlerWeatherModel" yX7_opens yX7_opens : Cond) ∈ GT := gt_at 39 (by decide +kernel) (by decide +kernel)
theorem kw_40 : (.selects "ButlerWeatherModel" yX7_hasCard yX7_hasCard : Cond) ∈ GT := gt_at 40 (by decide +kernel) (by decide +kernel)
theorem kw_41 : (.selects "ButlerWeatherModel" yX7_nameOf yX7_nameOf : Cond) ∈ GT := gt_at 41 (by decide +kernel) (by decide +kernel)
theorem kw_42 : (.selects "ButlerWeatherModel" yX7_doorOf yX7_doorOf : Cond) ∈ GT := gt_at 42 (by decide +kernel) (by decide +kernel)
theorem kw_43 : (.selects "ButlerWeatherModel" yX7_warmthOf yX7_warmthOf : Cond) ∈ GT := gt_at 43 (by decide +kernel) (by decide +kernel)
theorem kw_44 : (.selects "ButlerWeatherModel" yX7_coldestOf yX7_coldestOf : Cond) ∈ GT := gt_at 44 (by decide +kernel) (by decide +kernel)
theorem kw_45 : (.selects "ButlerWeatherModel" yX7_firstOf yX7_firstOf : Cond) ∈ GT := gt_at 45 (by decide +kernel) (by decide +kernel)
theorem kw_46 : (.selects "ButlerWeatherModel" yX7_sentOf yX7_sentOf : Cond) ∈ GT := gt_at 46 (by decide +kernel) (by decide +kernel)
theorem kw_47 : (.selects "ButlerWeatherModel" yX7_sentNow yX7_sentNow : Cond) ∈ GT := gt_at 47 (by decide +kernel) (by decide +kernel)
theorem kw_48 : (.selects "ButlerWeatherModel" yX7_wrongOf yX7_wrongOf : Cond) ∈ GT := gt_at 48 (by decide +kernel) (by decide +kernel)
theorem kw_49 : (.selects "ButlerWeatherModel" yX7_sumOf yX7_sumOf : Cond) ∈ GT := gt_at 49 (by decide +kernel) (by decide +kernel)
theorem kw_50 : (.selects "ButlerWeatherModel" yX7_sumNow yX7_sumNow : Cond) ∈ GT := gt_at 50 (by decide +kernel) (by decide +kernel)
theorem kw_51 : (.selects "ButlerWeatherModel" yX7_leaveOf yX7_leaveOf : Cond) ∈ GT := gt_at 51 (by decide +kernel) (by decide +kernel)
theorem kw_52 : (.selects "ButlerWeatherModel" yX7_beginOf yX7_beginOf : Cond) ∈ GT := gt_at 52 (by decide +kernel) (by decide +kernel)
theorem kw_53 : (.selects "ButlerWeatherModel" yX7_insNow yX7_insNow : Cond) ∈ GT := gt_at 53 (by decide +kernel) (by decide +kernel)
theorem kw_54 : (.selects "ButlerWeatherModel" yX7_waitOf yX7_waitOf : Cond) ∈ GT := gt_at 54 (by decide +kernel) (by decide +kernel)
theorem kw_55 : (.selects "ButlerWeatherModel" yX7_burnBy yX7_burnBy : Cond) ∈ GT := gt_at 55 (by decide +kernel) (by decide +kernel)
theorem kw_56 : (.selects "ButlerWeatherModel" yX7_isBurnt yX7_isBurnt : Cond) ∈ GT := gt_at 56 (by decide +kernel) (by decide +kernel)
theorem kw_57 : (.selects "ButlerWeatherModel" yX7_ofRow yX7_ofRow : Cond) ∈ GT := gt_at 57 (by decide +kernel) (by decide +kernel)
theorem kw_58 : (.selects "ButlerWeatherModel" yX7_neverNow yX7_neverNow : Cond) ∈ GT := gt_at 58 (by decide +kernel) (by decide +kernel)
theorem kw_59 : (.selects "ButlerWeatherModel" yX7_isFelt yX7_isFelt : Cond) ∈ GT := gt_at 59 (by decide +kernel) (by decide +kernel)
theorem kw_60 : (.selects "ButlerWeatherModel" yX7_sortsBy yX7_sortsBy : Cond) ∈ GT := gt_at 60 (by decide +kernel) (by decide +kernel)
theorem kw_61 : (.selects "ButlerWeatherModel" yX7_longBy yX7_longBy : Cond) ∈ GT := gt_at 61 (by decide +kernel) (by decide +kernel)
theorem kw_62 : (.selects "ButlerWeatherModel" yX7_askOf yX7_askOf : Cond) ∈ GT := gt_at 62 (by decide +kernel) (by decide +kernel)
theorem kw_63 : (.selects "ButlerWeatherModel" yX7_chanceOf yX7_chanceOf : Cond) ∈ GT := gt_at 63 (by decide +kernel) (by decide +kernel)
theorem kw_64 : (.selects "ButlerWeatherModel" yX7_yearsOf yX7_yearsOf : Cond) ∈ GT := gt_at 64 (by decide +kernel) (by decide +kernel)
theorem kw_65 : (.selects "ButlerWeatherModel" yX7_lacks yX7_lacks : Cond) ∈ GT := gt_at 65 (by decide +kernel) (by decide +kernel)
theorem kw_66 : (.selects "ButlerWeatherModel" yX7_keep yX7_keep : Cond) ∈ GT := gt_at 66 (by decide +kernel) (by decide +kernel)
theorem kw_67 : (.selects "ButlerWeatherModel" yX7_tellOf yX7_tellOf : Cond) ∈ GT := gt_at 67 (by decide +kernel) (by decide +kernel)
theorem kw_68 : (.selects "ButlerWeatherModel" yX7_ones yX7_ones : Cond) ∈ GT := gt_at 68 (by decide +kernel) (by decide +kernel)
theorem kw_69 : (.selects "ButlerWeatherModel" yX7_manDigest yX7_manDigest : Cond) ∈ GT := gt_at 69 (by decide +kernel) (by decide +kernel)
theorem kw_70 : (.selects "ButlerWeatherModel" yX7_callerDigest yX7_callerDigest : Cond) ∈ GT := gt_at 70 (by decide +kernel) (by decide +kernel)
theorem kw_72 : (.initialized "ButlerWeather" : Cond) ∈ GT := gt_at 72 (by decide +kernel) (by decide +kernel)
theorem kw_73 : (.initialized "ButlerWeather$Text" : Cond) ∈ GT := gt_at 73 (by decide +kernel) (by decide +kernel)
theorem kw_74 : (.initialized "ButlerWeather$Cards" : Cond) ∈ GT := gt_at 74 (by decide +kernel) (by decide +kernel)
theorem kw_75 : (.initialized "ButlerWeather$Felt" : Cond) ∈ GT := gt_at 75 (by decide +kernel) (by decide +kernel)
theorem kw_76 : (.initialized "ButlerWeather$Sheet" : Cond) ∈ GT := gt_at 76 (by decide +kernel) (by decide +kernel)
theorem kw_77 : (.initialized "ButlerWeather$House" : Cond) ∈ GT := gt_at 77 (by decide +kernel) (by decide +kernel)
theorem kw_78 : (.initialized "ButlerWeather$Odds" : Cond) ∈ GT := gt_at 78 (by decide +kernel) (by decide +kernel)
theorem kw_79 : (.initialized "ButlerWeatherModel" : Cond) ∈ GT := gt_at 79 (by decide +kernel) (by decide +kernel)
theorem kw_80 : (.initialized "java/lang/Math" : Cond) ∈ GT := gt_at 80 (by decide +kernel) (by decide +kernel)
theorem kw_81 : (.initialized "java/lang/Integer" : Cond) ∈ GT := gt_at 81 (by decide +kernel) (by decide +kernel)
theorem kw_82 : (.initialized "java/lang/System" : Cond) ∈ GT := gt_at 82 (by decide +kernel) (by decide +kernel)
theorem kw_100 : (.fieldLink "ButlerWeather$Text" 9 "ButlerWeather$Text" "signs" "[I" : Cond) ∈ GT := gt_at 100 (by decide +kernel) (by decide +kernel)
theorem kw_101 : (.fieldLink "ButlerWeather$Text" 15 "ButlerWeather$Text" "most" "I" : Cond) ∈ GT := gt_at 101 (by decide +kernel) (by decide +kernel)
theorem kw_102 : (.fieldLink "ButlerWeather$Text" 19 "ButlerWeather$Text" "bytes" "[I" : Cond) ∈ GT := gt_at 102 (by decide +kernel) (by decide +kernel)
theorem kw_103 : (.fieldLink "ButlerWeather$Text" 22 "ButlerWeather$Text" "size" "I" : Cond) ∈ GT := gt_at 103 (by decide +kernel) (by decide +kernel)
theorem kw_104 : (.fieldLink "ButlerWeather" 91 "ButlerWeather$Text" "size" "I" : Cond) ∈ GT := gt_at 104 (by decide +kernel) (by decide +kernel)
theorem kw_123 : (.fieldLink "ButlerWeather$Cards" 9 "ButlerWeather$Cards" "day" "[I" : Cond) ∈ GT := gt_at 123 (by decide +kernel) (by decide +kernel)
theorem kw_124 : (.fieldLink "ButlerWeather$Cards" 15 "ButlerWeather$Cards" "caller" "[I" : Cond) ∈ GT := gt_at 124 (by decide +kernel) (by decide +kernel)
theorem kw_125 : (.fieldLink "ButlerWeather$Cards" 18 "ButlerWeather$Cards" "size" "I" : Cond) ∈ GT := gt_at 125 (by decide +kernel) (by decide +kernel)
theorem kw_126 : (.fieldLink "ButlerWeather$Odds" 19 "ButlerWeather$Cards" "size" "I" : Cond) ∈ GT := gt_at 126 (by decide +kernel) (by decide +kernel)
theorem kw_127 : (.fieldLink "ButlerWeather" 135 "ButlerWeather$Cards" "size" "I" : Cond) ∈ GT := gt_at 127 (by decide +kernel) (by decide +kernel)
theorem kw_141 : (.fieldLink "ButlerWeather$Felt" 9 "ButlerWeather$Felt" "day" "[I" : Cond) ∈ GT := gt_at 141 (by decide +kernel) (by decide +kernel)
theorem kw_142 : (.fieldLink "ButlerWeather$Felt" 15 "ButlerWeather$Felt" "warmth" "[I" : Cond) ∈ GT := gt_at 142 (by decide +kernel) (by decide +kernel)
theorem kw_143 : (.fieldLink "ButlerWeather$Felt" 18 "ButlerWeather$Felt" "size" "I" : Cond) ∈ GT := gt_at 143 (by decide +kernel) (by decide +kernel)
theorem kw_144 : (.fieldLink "ButlerWeather" 217 "ButlerWeather$Felt" "size" "I" : Cond) ∈ GT := gt_at 144 (by decide +kernel) (by decide +kernel)
theorem kw_159 : (.fieldLink "ButlerWeather$Sheet" 9 "ButlerWeather$Sheet" "form" "I" : Cond) ∈ GT := gt_at 159 (by decide +kernel) (by decide +kernel)
theorem kw_160 : (.fieldLink "ButlerWeather" 278 "ButlerWeather$Sheet" "form" "I" : Cond) ∈ GT := gt_at 160 (by decide +kernel) (by decide +kernel)
theorem kw_161 : (.fieldLink "ButlerWeather$Sheet" 19 "ButlerWeather$Sheet" "size" "I" : Cond) ∈ GT := gt_at 161 (by decide +kernel) (by decide +kernel)
theorem kw_162 : (.fieldLink "ButlerWeather" 146 "ButlerWeather$Sheet" "size" "I" : Cond) ∈ GT := gt_at 162 (by decide +kernel) (by decide +kernel)
theorem kw_163 : (.fieldLink "ButlerWeather$Sheet" 15 "ButlerWeather$Sheet" "items" "[I" : Cond) ∈ GT := gt_at 163 (by decide +kernel) (by decide +kernel)
theorem kw_164 : (.fieldLink "ButlerWeather" 147 "ButlerWeather$Sheet" "items" "[I" : Cond) ∈ GT := gt_at 164 (by decide +kernel) (by decide +kernel)
theorem kw_178 : (.fieldLink "ButlerWeather$House" 48 "ButlerWeather$House" "callers" "I" : Cond) ∈ GT := gt_at 178 (by decide +kernel) (by decide +kernel)
theorem kw_179 : (.fieldLink "ButlerWeather$Odds" 40 "ButlerWeather$House" "callers" "I" : Cond) ∈ GT := gt_at 179 (by decide +kernel) (by decide +kernel)
theorem kw_180 : (.fieldLink "ButlerWeather" 187 "ButlerWeather$House" "callers" "I" : Cond) ∈ GT := gt_at 180 (by decide +kernel) (by decide +kernel)
theorem kw_181 : (.fieldLink "ButlerWeather$House" 9 "ButlerWeather$House" "sort" "[I" : Cond) ∈ GT := gt_at 181 (by decide +kernel) (by decide +kernel)
theorem kw_182 : (.fieldLink "ButlerWeather" 107 "ButlerWeather$House" "sort" "[I" : Cond) ∈ GT := gt_at 182 (by decide +kernel) (by decide +kernel)
theorem kw_183 : (.fieldLink "ButlerWeather$House" 15 "ButlerWeather$House" "waits" "[I" : Cond) ∈ GT := gt_at 183 (by decide +kernel) (by decide +kernel)
theorem kw_184 : (.fieldLink "ButlerWeather$Odds" 59 "ButlerWeather$House" "waits" "[I" : Cond) ∈ GT := gt_at 184 (by decide +kernel) (by decide +kernel)
theorem kw_185 : (.fieldLink "ButlerWeather" 110 "ButlerWeather$House" "waits" "[I" : Cond) ∈ GT := gt_at 185 (by decide +kernel) (by decide +kernel)
theorem kw_186 : (.fieldLink "ButlerWeather$House" 18 "ButlerWeather$House" "calls" "[I" : Cond) ∈ GT := gt_at 186 (by decide +kernel) (by decide +kernel)
theorem kw_187 : (.fieldLink "ButlerWeather" 113 "ButlerWeather$House" "calls" "[I" : Cond) ∈ GT := gt_at 187 (by decide +kernel) (by decide +kernel)
theorem kw_188 : (.fieldLink "ButlerWeather$House" 21 "ButlerWeather$House" "force" "[I" : Cond) ∈ GT := gt_at 188 (by decide +kernel) (by decide +kernel)
theorem kw_189 : (.fieldLink "ButlerWeather" 116 "ButlerWeather$House" "force" "[I" : Cond) ∈ GT := gt_at 189 (by decide +kernel) (by decide +kernel)
theorem kw_190 : (.fieldLink "ButlerWeather$House" 24 "ButlerWeather$House" "invited" "[I" : Cond) ∈ GT := gt_at 190 (by decide +kernel) (by decide +kernel)
theorem kw_191 : (.fieldLink "ButlerWeather$House" 56 "ButlerWeather$House" "men" "I" : Cond) ∈ GT := gt_at 191 (by decide +kernel) (by decide +kernel)
theorem kw_192 : (.fieldLink "ButlerWeather" 296 "ButlerWeather$House" "men" "I" : Cond) ∈ GT := gt_at 192 (by decide +kernel) (by decide +kernel)
theorem kw_193 : (.fieldLink "ButlerWeather$House" 27 "ButlerWeather$House" "rank" "[I" : Cond) ∈ GT := gt_at 193 (by decide +kernel) (by decide +kernel)
theorem kw_194 : (.fieldLink "ButlerWeather" 122 "ButlerWeather$House" "rank" "[I" : Cond) ∈ GT := gt_at 194 (by decide +kernel) (by decide +kernel)
theorem kw_195 : (.fieldLink "ButlerWeather$House" 30 "ButlerWeather$House" "from" "[I" : Cond) ∈ GT := gt_at 195 (by decide +kernel) (by decide +kernel)
theorem kw_196 : (.fieldLink "ButlerWeather" 125 "ButlerWeather$House" "from" "[I" : Cond) ∈ GT := gt_at 196 (by decide +kernel) (by decide +kernel)
theorem kw_197 : (.fieldLink "ButlerWeather$House" 33 "ButlerWeather$House" "until" "[I" : Cond) ∈ GT := gt_at 197 (by decide +kernel) (by decide +kernel)
theorem kw_198 : (.fieldLink "ButlerWeather" 128 "ButlerWeather$House" "until" "[I" : Cond) ∈ GT := gt_at 198 (by decide +kernel) (by decide +kernel)
theorem kw_199 : (.fieldLink "ButlerWeather$House" 36 "ButlerWeather$House" "coming" "[I" : Cond) ∈ GT := gt_at 199 (by decide +kernel) (by decide +kernel)
theorem kw_200 : (.fieldLink "ButlerWeather$House" 39 "ButlerWeather$House" "cameIn" "[I" : Cond) ∈ GT := gt_at 200 (by decide +kernel) (by decide +kernel)
theorem kw_201 : (.fieldLink "ButlerWeather$Odds" 43 "ButlerWeather$House" "cameIn" "[I" : Cond) ∈ GT := gt_at 201 (by decide +kernel) (by decide +kernel)
theorem kw_202 : (.fieldLink "ButlerWeather" 175 "ButlerWeather$House" "cameIn" "[I" : Cond) ∈ GT := gt_at 202 (by decide +kernel) (by decide +kernel)
theorem kw_203 : (.fieldLink "ButlerWeather$House" 42 "ButlerWeather$House" "sentOn" "[I" : Cond) ∈ GT := gt_at 203 (by decide +kernel) (by decide +kernel)
theorem kw_204 : (.fieldLink "ButlerWeather$House" 45 "ButlerWeather$House" "named" "[I" : Cond) ∈ GT := gt_at 204 (by decide +kernel) (by decide +kernel)
theorem kw_205 : (.fieldLink "ButlerWeather" 156 "ButlerWeather$House" "named" "[I" : Cond) ∈ GT := gt_at 205 (by decide +kernel) (by decide +kernel)
theorem kw_243 : (.fieldLink "ButlerWeather$Odds" 11 "ButlerWeather$Odds" "ways" "[[I" : Cond) ∈ GT := gt_at 243 (by decide +kernel) (by decide +kernel)
theorem kw_244 : (.fieldLink "ButlerWeather$Odds" 51 "ButlerWeather$Odds" "counted" "Z" : Cond) ∈ GT := gt_at 244 (by decide +kernel) (by decide +kernel)
theorem kw_245 : (.fieldLink "ButlerWeather" 244 "ButlerWeather$Odds" "counted" "Z" : Cond) ∈ GT := gt_at 245 (by decide +kernel) (by decide +kernel)
theorem kw_246 : (.fieldLink "ButlerWeather$Odds" 16 "ButlerWeather$Odds" "warmth" "[[I" : Cond) ∈ GT := gt_at 246 (by decide +kernel) (by decide +kernel)
theorem kw_254 : (.fieldLink "ButlerWeather" 9 "ButlerWeather" "texts" "[LButlerWeather$Text;" : Cond) ∈ GT := gt_at 254 (by decide +kernel) (by decide +kernel)
theorem kw_255 : (.fieldLink "ButlerWeather" 28 "ButlerWeather" "cards" "LButlerWeather$Cards;" : Cond) ∈ GT := gt_at 255 (by decide +kernel) (by decide +kernel)
theorem kw_256 : (.fieldLink "ButlerWeather" 35 "ButlerWeather" "felt" "LButlerWeather$Felt;" : Cond) ∈ GT := gt_at 256 (by decide +kernel) (by decide +kernel)
theorem kw_257 : (.fieldLink "ButlerWeather" 41 "ButlerWeather" "sheets" "[LButlerWeather$Sheet;" : Cond) ∈ GT := gt_at 257 (by decide +kernel) (by decide +kernel)
theorem kw_258 : (.fieldLink "ButlerWeather" 49 "ButlerWeather" "home" "LButlerWeather$House;" : Cond) ∈ GT := gt_at 258 (by decide +kernel) (by decide +kernel)
theorem kw_259 : (.fieldLink "ButlerWeather" 53 "ButlerWeather" "trial" "LButlerWeather$House;" : Cond) ∈ GT := gt_at 259 (by decide +kernel) (by decide +kernel)
theorem kw_260 : (.fieldLink "ButlerWeather" 59 "ButlerWeather" "odds" "LButlerWeather$Odds;" : Cond) ∈ GT := gt_at 260 (by decide +kernel) (by decide +kernel)
theorem kw_261 : (.fieldLink "ButlerWeather" 63 "ButlerWeather" "settled" "Z" : Cond) ∈ GT := gt_at 261 (by decide +kernel) (by decide +kernel)
theorem kw_262 : (.fieldLink "ButlerWeather" 67 "ButlerWeather" "finding" "I" : Cond) ∈ GT := gt_at 262 (by decide +kernel) (by decide +kernel)
theorem kw_286 : (.methodLink "ButlerWeather" 71 yX6_isText : Cond) ∈ GT := gt_at 286 (by decide +kernel) (by decide +kernel)
theorem kw_287 : (.static yX6_isText : Cond) ∈ GT := gt_at 287 (by decide +kernel) (by decide +kernel)
theorem kw_288 : (.code yX6_isText cX6_isText 1 (some .boolean) : Cond) ∈ GT := gt_at 288 (by decide +kernel) (by decide +kernel)
theorem kw_289 : (.methodLink "ButlerWeather" 75 yX6_within : Cond) ∈ GT := gt_at 289 (by decide +kernel) (by decide +kernel)
theorem kw_290 : (.static yX6_within : Cond) ∈ GT := gt_at 290 (by decide +kernel) (by decide +kernel)
theorem kw_291 : (.code yX6_within cX6_within 3 (some .boolean) : Cond) ∈ GT := gt_at 291 (by decide +kernel) (by decide +kernel)
theorem kw_292 : (.methodLink "ButlerWeather" 79 yX5_hasRoom : Cond) ∈ GT := gt_at 292 (by decide +kernel) (by decide +kernel)
theorem kw_293 : (.instanceMethod yX5_hasRoom : Cond) ∈ GT := gt_at 293 (by decide +kernel) (by decide +kernel)
theorem kw_294 : (.selects "ButlerWeather$Text" yX5_hasRoom yX5_hasRoom : Cond) ∈ GT := gt_at 294 (by decide +kernel) (by decide +kernel)
theorem kw_295 : (.code yX5_hasRoom cX5_hasRoom 1 (some .boolean) : Cond) ∈ GT := gt_at 295 (by decide +kernel) (by decide +kernel)
theorem kw_296 : (.methodLink "ButlerWeather" 83 yX5_append : Cond) ∈ GT := gt_at 296 (by decide +kernel) (by decide +kernel)
theorem kw_297 : (.instanceMethod yX5_append : Cond) ∈ GT := gt_at 297 (by decide +kernel) (by decide +kernel)
theorem kw_298 : (.selects "ButlerWeather$Text" yX5_append yX5_append : Cond) ∈ GT := gt_at 298 (by decide +kernel) (by decide +kernel)
theorem kw_299 : (.code yX5_append cX5_append 2 (some .int) : Cond) ∈ GT := gt_at 299 (by decide +kernel) (by decide +kernel)
theorem kw_300 : (.methodLink "ButlerWeather$Text" 25 yX5_hasRoom : Cond) ∈ GT := gt_at 300 (by decide +kernel) (by decide +kernel)
theorem kw_305 : (.methodLink "ButlerWeather" 87 yX5_clear : Cond) ∈ GT := gt_at 305 (by decide +kernel) (by decide +kernel)
theorem kw_306 : (.instanceMethod yX5_clear : Cond) ∈ GT := gt_at 306 (by decide +kernel) (by decide +kernel)
theorem kw_307 : (.selects "ButlerWeather$Text" yX5_clear yX5_clear : Cond) ∈ GT := gt_at 307 (by decide +kernel) (by decide +kernel)
theorem kw_308 : (.code yX5_clear cX5_clear 2 (some .int) : Cond) ∈ GT := gt_at 308 (by decide +kernel) (by decide +kernel)
theorem kw_313 : (.methodLink "ButlerWeather" 94 yX5_dropLast : Cond) ∈ GT := gt_at 313 (by decide +kernel) (by decide +kernel)
theorem kw_314 : (.instanceMethod yX5_dropLast : Cond) ∈ GT := gt_at 314 (by decide +kernel) (by decide +kernel)
theorem kw_315 : (.selects "ButlerWeather$Text" yX5_dropLast yX5_dropLast : Cond) ∈ GT := gt_at 315 (by decide +kernel) (by decide +kernel)
theorem kw_316 : (.code yX5_dropLast cX5_dropLast 1 (some .int) : Cond) ∈ GT := gt_at 316 (by decide +kernel) (by decide +kernel)
theorem kw_318 : (.instanceMethod yX6_fault : Cond) ∈ GT := gt_at 318 (by decide +kernel) (by decide +kernel)
theorem kw_319 : (.selects "ButlerWeather" yX6_fault yX6_fault : Cond) ∈ GT := gt_at 319 (by decide +kernel) (by decide +kernel)
theorem kw_320 : (.code yX6_fault cX6_fault 2 (some .int) : Cond) ∈ GT := gt_at 320 (by decide +kernel) (by decide +kernel)
theorem kw_321 : (.methodLink "ButlerWeather" 97 yX5_firstFault : Cond) ∈ GT := gt_at 321 (by decide +kernel) (by decide +kernel)
theorem kw_322 : (.instanceMethod yX5_firstFault : Cond) ∈ GT := gt_at 322 (by decide +kernel) (by decide +kernel)
theorem kw_323 : (.selects "ButlerWeather$Text" yX5_firstFault yX5_firstFault : Cond) ∈ GT := gt_at 323 (by decide +kernel) (by decide +kernel)
theorem kw_324 : (.code yX5_firstFault cX5_firstFault 5 (some .int) : Cond) ∈ GT := gt_at 324 (by decide +kernel) (by decide +kernel)
theorem kw_325 : (.methodLink "ButlerWeather$Text" 29 yX5_meaning : Cond) ∈ GT := gt_at 325 (by decide +kernel) (by decide +kernel)
theorem kw_326 : (.static yX5_meaning : Cond) ∈ GT := gt_at 326 (by decide +kernel) (by decide +kernel)
theorem kw_327 : (.code yX5_meaning cX5_meaning 2 (some .int) : Cond) ∈ GT := gt_at 327 (by decide +kernel) (by decide +kernel)
theorem kw_329 : (.instanceMethod yX6_caller : Cond) ∈ GT := gt_at 329 (by decide +kernel) (by decide +kernel)
theorem kw_330 : (.selects "ButlerWeather" yX6_caller yX6_caller : Cond) ∈ GT := gt_at 330 (by decide +kernel) (by decide +kernel)
theorem kw_331 : (.code yX6_caller cX6_caller 4 (some .int) : Cond) ∈ GT := gt_at 331 (by decide +kernel) (by decide +kernel)
theorem kw_332 : (.methodLink "ButlerWeather" 100 yX6_told : Cond) ∈ GT := gt_at 332 (by decide +kernel) (by decide +kernel)
theorem kw_334 : (.instanceMethod yX6_told : Cond) ∈ GT := gt_at 334 (by decide +kernel) (by decide +kernel)
theorem kw_335 : (.code yX6_told cX6_told 3 (some (.object "ButlerWeather$House")) : Cond) ∈ GT := gt_at 335 (by decide +kernel) (by decide +kernel)
theorem kw_336 : (.methodLink "ButlerWeather" 381 yX5_itemCount : Cond) ∈ GT := gt_at 336 (by decide +kernel) (by decide +kernel)
theorem kw_337 : (.instanceMethod yX5_itemCount : Cond) ∈ GT := gt_at 337 (by decide +kernel) (by decide +kernel)
theorem kw_338 : (.selects "ButlerWeather$Text" yX5_itemCount yX5_itemCount : Cond) ∈ GT := gt_at 338 (by decide +kernel) (by decide +kernel)
theorem kw_339 : (.code yX5_itemCount cX5_itemCount 1 (some .int) : Cond) ∈ GT := gt_at 339 (by decide +kernel) (by decide +kernel)
theorem kw_340 : (.methodLink "ButlerWeather$Text" 33 yX5_firstFault : Cond) ∈ GT := gt_at 340 (by decide +kernel) (by decide +kernel)
theorem kw_341 : (.methodLink "ButlerWeather" 384 yX2_takeCallers : Cond) ∈ GT := gt_at 341 (by decide +kernel) (by decide +kernel)
theorem kw_342 : (.instanceMethod yX2_takeCallers : Cond) ∈ GT := gt_at 342 (by decide +kernel) (by decide +kernel)
theorem kw_343 : (.selects "ButlerWeather$House" yX2_takeCallers yX2_takeCallers : Cond) ∈ GT := gt_at 343 (by decide +kernel) (by decide +kernel)
theorem kw_344 : (.code yX2_takeCallers cX2_takeCallers 4 none : Cond) ∈ GT := gt_at 344 (by decide +kernel) (by decide +kernel)
theorem kw_345 : (.methodLink "ButlerWeather$House" 59 yJ9_min_7cf53 : Cond) ∈ GT := gt_at 345 (by decide +kernel) (by decide +kernel)
theorem kw_346 : (.static yJ9_min_7cf53 : Cond) ∈ GT := gt_at 346 (by decide +kernel) (by decide +kernel)
theorem kw_347 : (.code yJ9_min_7cf53 cJ9_min_7cf53 2 (some .int) : Cond) ∈ GT := gt_at 347 (by decide +kernel) (by decide +kernel)
theorem kw_348 : (.methodLink "ButlerWeather$House" 65 yX5_value : Cond) ∈ GT := gt_at 348 (by decide +kernel) (by decide +kernel)
theorem kw_349 : (.instanceMethod yX5_value : Cond) ∈ GT := gt_at 349 (by decide +kernel) (by decide +kernel)
theorem kw_350 : (.selects "ButlerWeather$Text" yX5_value yX5_value : Cond) ∈ GT := gt_at 350 (by decide +kernel) (by decide +kernel)
theorem kw_351 : (.code yX5_value cX5_value 4 (some .int) : Cond) ∈ GT := gt_at 351 (by decide +kernel) (by decide +kernel)
theorem kw_353 : (.methodLink "ButlerWeather" 388 yX2_takeMen : Cond) ∈ GT := gt_at 353 (by decide +kernel) (by decide +kernel)
theorem kw_354 : (.instanceMethod yX2_takeMen : Cond) ∈ GT := gt_at 354 (by decide +kernel) (by decide +kernel)
theorem kw_355 : (.selects "ButlerWeather$House" yX2_takeMen yX2_takeMen : Cond) ∈ GT := gt_at 355 (by decide +kernel) (by decide +kernel)
theorem kw_356 : (.code yX2_takeMen cX2_takeMen 4 none : Cond) ∈ GT := gt_at 356 (by decide +kernel) (by decide +kernel)
theorem kw_357 : (.methodLink "ButlerWeather" 221 yX0_inviteAllBut : Cond) ∈ GT := gt_at 357 (by decide +kernel) (by decide +kernel)
theorem kw_358 : (.instanceMethod yX0_inviteAllBut : Cond) ∈ GT := gt_at 358 (by decide +kernel) (by decide +kernel)
theorem kw_359 : (.selects "ButlerWeather$Cards" yX0_inviteAllBut yX0_inviteAllBut : Cond) ∈ GT := gt_at 359 (by decide +kernel) (by decide +kernel)
theorem kw_360 : (.code yX0_inviteAllBut cX0_inviteAllBut 4 none : Cond) ∈ GT := gt_at 360 (by decide +kernel) (by decide +kernel)
theorem kw_361 : (.methodLink "ButlerWeather$Cards" 22 yX2_uninviteAll : Cond) ∈ GT := gt_at 361 (by decide +kernel) (by decide +kernel)
theorem kw_362 : (.instanceMethod yX2_uninviteAll : Cond) ∈ GT := gt_at 362 (by decide +kernel) (by decide +kernel)
theorem kw_363 : (.selects "ButlerWeather$House" yX2_uninviteAll yX2_uninviteAll : Cond) ∈ GT := gt_at 363 (by decide +kernel) (by decide +kernel)
theorem kw_364 : (.code yX2_uninviteAll cX2_uninviteAll 2 none : Cond) ∈ GT := gt_at 364 (by decide +kernel) (by decide +kernel)
theorem kw_365 : (.methodLink "ButlerWeather$Cards" 27 yX2_invite : Cond) ∈ GT := gt_at 365 (by decide +kernel) (by decide +kernel)
theorem kw_366 : (.instanceMethod yX2_invite : Cond) ∈ GT := gt_at 366 (by decide +kernel) (by decide +kernel)
theorem kw_367 : (.selects "ButlerWeather$House" yX2_invite yX2_invite : Cond) ∈ GT := gt_at 367 (by decide +kernel) (by decide +kernel)
theorem kw_368 : (.code yX2_invite cX2_invite 3 none : Cond) ∈ GT := gt_at 368 (by decide +kernel) (by decide +kernel)
theorem kw_370 : (.methodLink "ButlerWeather" 198 yX2_live : Cond) ∈ GT := gt_at 370 (by decide +kernel) (by decide +kernel)
theorem kw_371 : (.instanceMethod yX2_live : Cond) ∈ GT := gt_at 371 (by decide +kernel) (by decide +kernel)
theorem kw_372 : (.selects "ButlerWeather$House" yX2_live yX2_live : Cond) ∈ GT := gt_at 372 (by decide +kernel) (by decide +kernel)
theorem kw_373 : (.code yX2_live cX2_live 3 none : Cond) ∈ GT := gt_at 373 (by decide +kernel) (by decide +kernel)
theorem kw_374 : (.methodLink "ButlerWeather$House" 70 yX2_gather : Cond) ∈ GT := gt_at 374 (by decide +kernel) (by decide +kernel)
theorem kw_376 : (.instanceMethod yX2_gather : Cond) ∈ GT := gt_at 376 (by decide +kernel) (by decide +kernel)
theorem kw_377 : (.code yX2_gather cX2_gather 2 none : Cond) ∈ GT := gt_at 377 (by decide +kernel) (by decide +kernel)
theorem kw_378 : (.methodLink "ButlerWeather$House" 73 yX2_receive : Cond) ∈ GT := gt_at 378 (by decide +kernel) (by decide +kernel)
theorem kw_380 : (.instanceMethod yX2_receive : Cond) ∈ GT := gt_at 380 (by decide +kernel) (by decide +kernel)
theorem kw_381 : (.code yX2_receive cX2_receive 5 (some .int) : Cond) ∈ GT := gt_at 381 (by decide +kernel) (by decide +kernel)
theorem kw_382 : (.methodLink "ButlerWeather$House" 82 yX2_letIn : Cond) ∈ GT := gt_at 382 (by decide +kernel) (by decide +kernel)
theorem kw_384 : (.instanceMethod yX2_letIn : Cond) ∈ GT := gt_at 384 (by decide +kernel) (by decide +kernel)
theorem kw_385 : (.code yX2_letIn cX2_letIn 4 none : Cond) ∈ GT := gt_at 385 (by decide +kernel) (by decide +kernel)
theorem kw_386 : (.methodLink "ButlerWeather$House" 76 yX2_openDoor : Cond) ∈ GT := gt_at 386 (by decide +kernel) (by decide +kernel)
theorem kw_388 : (.instanceMethod yX2_openDoor : Cond) ∈ GT := gt_at 388 (by decide +kernel) (by decide +kernel)
theorem kw_389 : (.code yX2_openDoor cX2_openDoor 7 (some .int) : Cond) ∈ GT := gt_at 389 (by decide +kernel) (by decide +kernel)
theorem kw_390 : (.methodLink "ButlerWeather$House" 86 yX2_manAt : Cond) ∈ GT := gt_at 390 (by decide +kernel) (by decide +kernel)
theorem kw_391 : (.instanceMethod yX2_manAt : Cond) ∈ GT := gt_at 391 (by decide +kernel) (by decide +kernel)
theorem kw_392 : (.selects "ButlerWeather$House" yX2_manAt yX2_manAt : Cond) ∈ GT := gt_at 392 (by decide +kernel) (by decide +kernel)
theorem kw_393 : (.code yX2_manAt cX2_manAt 3 (some .int) : Cond) ∈ GT := gt_at 393 (by decide +kernel) (by decide +kernel)
theorem kw_394 : (.methodLink "ButlerWeather$House" 90 yX2_sendSunshines : Cond) ∈ GT := gt_at 394 (by decide +kernel) (by decide +kernel)
theorem kw_396 : (.instanceMethod yX2_sendSunshines : Cond) ∈ GT := gt_at 396 (by decide +kernel) (by decide +kernel)
theorem kw_397 : (.code yX2_sendSunshines cX2_sendSunshines 5 (some .int) : Cond) ∈ GT := gt_at 397 (by decide +kernel) (by decide +kernel)
theorem kw_398 : (.methodLink "ButlerWeather$House" 93 yX2_longestInvited : Cond) ∈ GT := gt_at 398 (by decide +kernel) (by decide +kernel)
theorem kw_400 : (.instanceMethod yX2_longestInvited : Cond) ∈ GT := gt_at 400 (by decide +kernel) (by decide +kernel)
theorem kw_401 : (.code yX2_longestInvited cX2_longestInvited 5 (some .int) : Cond) ∈ GT := gt_at 401 (by decide +kernel) (by decide +kernel)
theorem kw_402 : (.methodLink "ButlerWeather$House" 79 yX2_sendWeary : Cond) ∈ GT := gt_at 402 (by decide +kernel) (by decide +kernel)
theorem kw_404 : (.instanceMethod yX2_sendWeary : Cond) ∈ GT := gt_at 404 (by decide +kernel) (by decide +kernel)
theorem kw_405 : (.code yX2_sendWeary cX2_sendWeary 5 (some .int) : Cond) ∈ GT := gt_at 405 (by decide +kernel) (by decide +kernel)
theorem kw_406 : (.methodLink "ButlerWeather" 104 yX2_hasCaller : Cond) ∈ GT := gt_at 406 (by decide +kernel) (by decide +kernel)
theorem kw_407 : (.instanceMethod yX2_hasCaller : Cond) ∈ GT := gt_at 407 (by decide +kernel) (by decide +kernel)
theorem kw_408 : (.selects "ButlerWeather$House" yX2_hasCaller yX2_hasCaller : Cond) ∈ GT := gt_at 408 (by decide +kernel) (by decide +kernel)
theorem kw_409 : (.code yX2_hasCaller cX2_hasCaller 2 (some .boolean) : Cond) ∈ GT := gt_at 409 (by decide +kernel) (by decide +kernel)
theorem kw_411 : (.instanceMethod yX6_man : Cond) ∈ GT := gt_at 411 (by decide +kernel) (by decide +kernel)
theorem kw_412 : (.selects "ButlerWeather" yX6_man yX6_man : Cond) ∈ GT := gt_at 412 (by decide +kernel) (by decide +kernel)
theorem kw_413 : (.code yX6_man cX6_man 4 (some .int) : Cond) ∈ GT := gt_at 413 (by decide +kernel) (by decide +kernel)
theorem kw_414 : (.methodLink "ButlerWeather" 119 yX2_hasMan : Cond) ∈ GT := gt_at 414 (by decide +kernel) (by decide +kernel)
theorem kw_415 : (.instanceMethod yX2_hasMan : Cond) ∈ GT := gt_at 415 (by decide +kernel) (by decide +kernel)
theorem kw_416 : (.selects "ButlerWeather$House" yX2_hasMan yX2_hasMan : Cond) ∈ GT := gt_at 416 (by decide +kernel) (by decide +kernel)
theorem kw_417 : (.code yX2_hasMan cX2_hasMan 2 (some .boolean) : Cond) ∈ GT := gt_at 417 (by decide +kernel) (by decide +kernel)
theorem kw_422 : (.methodLink "ButlerWeather" 131 yX6_addCard : Cond) ∈ GT := gt_at 422 (by decide +kernel) (by decide +kernel)
theorem kw_424 : (.instanceMethod yX6_addCard : Cond) ∈ GT := gt_at 424 (by decide +kernel) (by decide +kernel)
theorem kw_425 : (.code yX6_addCard cX6_addCard 3 (some .int) : Cond) ∈ GT := gt_at 425 (by decide +kernel) (by decide +kernel)
theorem kw_426 : (.methodLink "ButlerWeather" 150 yX6_isDay : Cond) ∈ GT := gt_at 426 (by decide +kernel) (by decide +kernel)
theorem kw_427 : (.static yX6_isDay : Cond) ∈ GT := gt_at 427 (by decide +kernel) (by decide +kernel)
theorem kw_428 : (.code yX6_isDay cX6_isDay 1 (some .boolean) : Cond) ∈ GT := gt_at 428 (by decide +kernel) (by decide +kernel)
theorem kw_429 : (.methodLink "ButlerWeather" 380 yX0_append : Cond) ∈ GT := gt_at 429 (by decide +kernel) (by decide +kernel)
theorem kw_430 : (.instanceMethod yX0_append : Cond) ∈ GT := gt_at 430 (by decide +kernel) (by decide +kernel)
theorem kw_431 : (.selects "ButlerWeather$Cards" yX0_append yX0_append : Cond) ∈ GT := gt_at 431 (by decide +kernel) (by decide +kernel)
theorem kw_432 : (.code yX0_append cX0_append 3 (some .int) : Cond) ∈ GT := gt_at 432 (by decide +kernel) (by decide +kernel)
theorem kw_437 : (.methodLink "ButlerWeather" 136 yX0_dropLast : Cond) ∈ GT := gt_at 437 (by decide +kernel) (by decide +kernel)
theorem kw_438 : (.instanceMethod yX0_dropLast : Cond) ∈ GT := gt_at 438 (by decide +kernel) (by decide +kernel)
theorem kw_439 : (.selects "ButlerWeather$Cards" yX0_dropLast yX0_dropLast : Cond) ∈ GT := gt_at 439 (by decide +kernel) (by decide +kernel)
theorem kw_440 : (.code yX0_dropLast cX0_dropLast 1 (some .int) : Cond) ∈ GT := gt_at 440 (by decide +kernel) (by decide +kernel)
theorem kw_445 : (.methodLink "ButlerWeather" 137 yX6_isSheet : Cond) ∈ GT := gt_at 445 (by decide +kernel) (by decide +kernel)
theorem kw_446 : (.static yX6_isSheet : Cond) ∈ GT := gt_at 446 (by decide +kernel) (by decide +kernel)
theorem kw_447 : (.code yX6_isSheet cX6_isSheet 1 (some .boolean) : Cond) ∈ GT := gt_at 447 (by decide +kernel) (by decide +kernel)
theorem kw_448 : (.methodLink "ButlerWeather" 140 yX4_isLost : Cond) ∈ GT := gt_at 448 (by decide +kernel) (by decide +kernel)
theorem kw_449 : (.instanceMethod yX4_isLost : Cond) ∈ GT := gt_at 449 (by decide +kernel) (by decide +kernel)
theorem kw_450 : (.selects "ButlerWeather$Sheet" yX4_isLost yX4_isLost : Cond) ∈ GT := gt_at 450 (by decide +kernel) (by decide +kernel)
theorem kw_451 : (.code yX4_isLost cX4_isLost 1 (some .boolean) : Cond) ∈ GT := gt_at 451 (by decide +kernel) (by decide +kernel)
theorem kw_452 : (.methodLink "ButlerWeather" 143 yX6_found : Cond) ∈ GT := gt_at 452 (by decide +kernel) (by decide +kernel)
theorem kw_454 : (.instanceMethod yX6_found : Cond) ∈ GT := gt_at 454 (by decide +kernel) (by decide +kernel)
theorem kw_455 : (.code yX6_found cX6_found 2 (some .int) : Cond) ∈ GT := gt_at 455 (by decide +kernel) (by decide +kernel)
theorem kw_457 : (.instanceMethod yX6_stands : Cond) ∈ GT := gt_at 457 (by decide +kernel) (by decide +kernel)
theorem kw_458 : (.selects "ButlerWeather" yX6_stands yX6_stands : Cond) ∈ GT := gt_at 458 (by decide +kernel) (by decide +kernel)
theorem kw_459 : (.code yX6_stands cX6_stands 4 (some .int) : Cond) ∈ GT := gt_at 459 (by decide +kernel) (by decide +kernel)
theorem kw_460 : (.methodLink "ButlerWeather" 153 yX2_standing : Cond) ∈ GT := gt_at 460 (by decide +kernel) (by decide +kernel)
theorem kw_461 : (.instanceMethod yX2_standing : Cond) ∈ GT := gt_at 461 (by decide +kernel) (by decide +kernel)
theorem kw_462 : (.selects "ButlerWeather$House" yX2_standing yX2_standing : Cond) ∈ GT := gt_at 462 (by decide +kernel) (by decide +kernel)
theorem kw_463 : (.code yX2_standing cX2_standing 3 (some .int) : Cond) ∈ GT := gt_at 463 (by decide +kernel) (by decide +kernel)
theorem kw_464 : (.methodLink "ButlerWeather$House" 96 yX2_isIn : Cond) ∈ GT := gt_at 464 (by decide +kernel) (by decide +kernel)
theorem kw_465 : (.instanceMethod yX2_isIn : Cond) ∈ GT := gt_at 465 (by decide +kernel) (by decide +kernel)
theorem kw_466 : (.selects "ButlerWeather$House" yX2_isIn yX2_isIn : Cond) ∈ GT := gt_at 466 (by decide +kernel) (by decide +kernel)
theorem kw_467 : (.code yX2_isIn cX2_isIn 3 (some .boolean) : Cond) ∈ GT := gt_at 467 (by decide +kernel) (by decide +kernel)
theorem kw_469 : (.instanceMethod yX6_name : Cond) ∈ GT := gt_at 469 (by decide +kernel) (by decide +kernel)
theorem kw_470 : (.selects "ButlerWeather" yX6_name yX6_name : Cond) ∈ GT := gt_at 470 (by decide +kernel) (by decide +kernel)
theorem kw_471 : (.code yX6_name cX6_name 3 (some .int) : Cond) ∈ GT := gt_at 471 (by decide +kernel) (by decide +kernel)
theorem kw_473 : (.instanceMethod yX6_door : Cond) ∈ GT := gt_at 473 (by decide +kernel) (by decide +kernel)
theorem kw_474 : (.selects "ButlerWeather" yX6_door yX6_door : Cond) ∈ GT := gt_at 474 (by decide +kernel) (by decide +kernel)
theorem kw_475 : (.code yX6_door cX6_door 4 (some .int) : Cond) ∈ GT := gt_at 475 (by decide +kernel) (by decide +kernel)
theorem kw_476 : (.methodLink "ButlerWeather" 159 yX2_manAt : Cond) ∈ GT := gt_at 476 (by decide +kernel) (by decide +kernel)
theorem kw_477 : (.methodLink "ButlerWeather" 162 yX2_hatsOn : Cond) ∈ GT := gt_at 477 (by decide +kernel) (by decide +kernel)
theorem kw_478 : (.instanceMethod yX2_hatsOn : Cond) ∈ GT := gt_at 478 (by decide +kernel) (by decide +kernel)
theorem kw_479 : (.selects "ButlerWeather$House" yX2_hatsOn yX2_hatsOn : Cond) ∈ GT := gt_at 479 (by decide +kernel) (by decide +kernel)
theorem kw_480 : (.code yX2_hatsOn cX2_hatsOn 4 (some .int) : Cond) ∈ GT := gt_at 480 (by decide +kernel) (by decide +kernel)
theorem kw_481 : (.methodLink "ButlerWeather" 165 yX2_stepOn : Cond) ∈ GT := gt_at 481 (by decide +kernel) (by decide +kernel)
theorem kw_482 : (.instanceMethod yX2_stepOn : Cond) ∈ GT := gt_at 482 (by decide +kernel) (by decide +kernel)
theorem kw_483 : (.selects "ButlerWeather$House" yX2_stepOn yX2_stepOn : Cond) ∈ GT := gt_at 483 (by decide +kernel) (by decide +kernel)
theorem kw_484 : (.code yX2_stepOn cX2_stepOn 4 (some .int) : Cond) ∈ GT := gt_at 484 (by decide +kernel) (by decide +kernel)
theorem kw_485 : (.methodLink "ButlerWeather$House" 106 yX2_standing : Cond) ∈ GT := gt_at 485 (by decide +kernel) (by decide +kernel)
theorem kw_487 : (.instanceMethod yX6_warmth : Cond) ∈ GT := gt_at 487 (by decide +kernel) (by decide +kernel)
theorem kw_488 : (.selects "ButlerWeather" yX6_warmth yX6_warmth : Cond) ∈ GT := gt_at 488 (by decide +kernel) (by decide +kernel)
theorem kw_489 : (.code yX6_warmth cX6_warmth 2 (some .int) : Cond) ∈ GT := gt_at 489 (by decide +kernel) (by decide +kernel)
theorem kw_490 : (.methodLink "ButlerWeather" 168 yX2_warmthOn : Cond) ∈ GT := gt_at 490 (by decide +kernel) (by decide +kernel)
theorem kw_491 : (.instanceMethod yX2_warmthOn : Cond) ∈ GT := gt_at 491 (by decide +kernel) (by decide +kernel)
theorem kw_492 : (.selects "ButlerWeather$House" yX2_warmthOn yX2_warmthOn : Cond) ∈ GT := gt_at 492 (by decide +kernel) (by decide +kernel)
theorem kw_493 : (.code yX2_warmthOn cX2_warmthOn 4 (some .int) : Cond) ∈ GT := gt_at 493 (by decide +kernel) (by decide +kernel)
theorem kw_494 : (.methodLink "ButlerWeather$House" 100 yX2_warmer : Cond) ∈ GT := gt_at 494 (by decide +kernel) (by decide +kernel)
theorem kw_496 : (.instanceMethod yX2_warmer : Cond) ∈ GT := gt_at 496 (by decide +kernel) (by decide +kernel)
theorem kw_497 : (.code yX2_warmer cX2_warmer 2 (some .int) : Cond) ∈ GT := gt_at 497 (by decide +kernel) (by decide +kernel)
theorem kw_500 : (.constant "ButlerWeather" 171 (-2147483648) : Cond) ∈ GT := gt_at 500 (by decide +kernel) (by decide +kernel)
theorem kw_502 : (.instanceMethod yX6_coldest : Cond) ∈ GT := gt_at 502 (by decide +kernel) (by decide +kernel)
theorem kw_503 : (.selects "ButlerWeather" yX6_coldest yX6_coldest : Cond) ∈ GT := gt_at 503 (by decide +kernel) (by decide +kernel)
theorem kw_504 : (.code yX6_coldest cX6_coldest 6 (some .int) : Cond) ∈ GT := gt_at 504 (by decide +kernel) (by decide +kernel)
theorem kw_506 : (.instanceMethod yX6_first : Cond) ∈ GT := gt_at 506 (by decide +kernel) (by decide +kernel)
theorem kw_507 : (.selects "ButlerWeather" yX6_first yX6_first : Cond) ∈ GT := gt_at 507 (by decide +kernel) (by decide +kernel)
theorem kw_508 : (.code yX6_first cX6_first 4 (some .int) : Cond) ∈ GT := gt_at 508 (by decide +kernel) (by decide +kernel)
theorem kw_509 : (.methodLink "ButlerWeather" 172 yX2_firstByDoor : Cond) ∈ GT := gt_at 509 (by decide +kernel) (by decide +kernel)
theorem kw_510 : (.instanceMethod yX2_firstByDoor : Cond) ∈ GT := gt_at 510 (by decide +kernel) (by decide +kernel)
theorem kw_511 : (.selects "ButlerWeather$House" yX2_firstByDoor yX2_firstByDoor : Cond) ∈ GT := gt_at 511 (by decide +kernel) (by decide +kernel)
theorem kw_512 : (.code yX2_firstByDoor cX2_firstByDoor 3 (some .int) : Cond) ∈ GT := gt_at 512 (by decide +kernel) (by decide +kernel)
theorem kw_514 : (.instanceMethod yX6_sent : Cond) ∈ GT := gt_at 514 (by decide +kernel) (by decide +kernel)
theorem kw_515 : (.selects "ButlerWeather" yX6_sent yX6_sent : Cond) ∈ GT := gt_at 515 (by decide +kernel) (by decide +kernel)
theorem kw_516 : (.code yX6_sent cX6_sent 1 (some .int) : Cond) ∈ GT := gt_at 516 (by decide +kernel) (by decide +kernel)
theorem kw_517 : (.methodLink "ButlerWeather" 178 yX2_sentBits : Cond) ∈ GT := gt_at 517 (by decide +kernel) (by decide +kernel)
theorem kw_518 : (.instanceMethod yX2_sentBits : Cond) ∈ GT := gt_at 518 (by decide +kernel) (by decide +kernel)
theorem kw_519 : (.selects "ButlerWeather$House" yX2_sentBits yX2_sentBits : Cond) ∈ GT := gt_at 519 (by decide +kernel) (by decide +kernel)
theorem kw_520 : (.code yX2_sentBits cX2_sentBits 1 (some .int) : Cond) ∈ GT := gt_at 520 (by decide +kernel) (by decide +kernel)
theorem kw_521 : (.methodLink "ButlerWeather$House" 109 yX2_thoseWithADay : Cond) ∈ GT := gt_at 521 (by decide +kernel) (by decide +kernel)
theorem kw_523 : (.instanceMethod yX2_thoseWithADay : Cond) ∈ GT := gt_at 523 (by decide +kernel) (by decide +kernel)
theorem kw_524 : (.code yX2_thoseWithADay cX2_thoseWithADay 4 (some .int) : Cond) ∈ GT := gt_at 524 (by decide +kernel) (by decide +kernel)
theorem kw_526 : (.instanceMethod yX6_wrong : Cond) ∈ GT := gt_at 526 (by decide +kernel) (by decide +kernel)
theorem kw_527 : (.selects "ButlerWeather" yX6_wrong yX6_wrong : Cond) ∈ GT := gt_at 527 (by decide +kernel) (by decide +kernel)
theorem kw_528 : (.code yX6_wrong cX6_wrong 1 (some .int) : Cond) ∈ GT := gt_at 528 (by decide +kernel) (by decide +kernel)
theorem kw_529 : (.methodLink "ButlerWeather" 181 yX2_misnamed : Cond) ∈ GT := gt_at 529 (by decide +kernel) (by decide +kernel)
theorem kw_530 : (.instanceMethod yX2_misnamed : Cond) ∈ GT := gt_at 530 (by decide +kernel) (by decide +kernel)
theorem kw_531 : (.selects "ButlerWeather$House" yX2_misnamed yX2_misnamed : Cond) ∈ GT := gt_at 531 (by decide +kernel) (by decide +kernel)
theorem kw_532 : (.code yX2_misnamed cX2_misnamed 3 (some .int) : Cond) ∈ GT := gt_at 532 (by decide +kernel) (by decide +kernel)
theorem kw_534 : (.instanceMethod yX6_sum : Cond) ∈ GT := gt_at 534 (by decide +kernel) (by decide +kernel)
theorem kw_535 : (.selects "ButlerWeather" yX6_sum yX6_sum : Cond) ∈ GT := gt_at 535 (by decide +kernel) (by decide +kernel)
theorem kw_536 : (.code yX6_sum cX6_sum 1 (some .int) : Cond) ∈ GT := gt_at 536 (by decide +kernel) (by decide +kernel)
theorem kw_537 : (.methodLink "ButlerWeather" 184 yX2_total : Cond) ∈ GT := gt_at 537 (by decide +kernel) (by decide +kernel)
theorem kw_538 : (.instanceMethod yX2_total : Cond) ∈ GT := gt_at 538 (by decide +kernel) (by decide +kernel)
theorem kw_539 : (.selects "ButlerWeather$House" yX2_total yX2_total : Cond) ∈ GT := gt_at 539 (by decide +kernel) (by decide +kernel)
theorem kw_540 : (.code yX2_total cX2_total 3 (some .int) : Cond) ∈ GT := gt_at 540 (by decide +kernel) (by decide +kernel)
theorem kw_542 : (.instanceMethod yX6_leave : Cond) ∈ GT := gt_at 542 (by decide +kernel) (by decide +kernel)
theorem kw_543 : (.selects "ButlerWeather" yX6_leave yX6_leave : Cond) ∈ GT := gt_at 543 (by decide +kernel) (by decide +kernel)
theorem kw_544 : (.code yX6_leave cX6_leave 8 (some .int) : Cond) ∈ GT := gt_at 544 (by decide +kernel) (by decide +kernel)
theorem kw_545 : (.methodLink "ButlerWeather" 190 yX2_become : Cond) ∈ GT := gt_at 545 (by decide +kernel) (by decide +kernel)
theorem kw_546 : (.instanceMethod yX2_become : Cond) ∈ GT := gt_at 546 (by decide +kernel) (by decide +kernel)
theorem kw_547 : (.selects "ButlerWeather$House" yX2_become yX2_become : Cond) ∈ GT := gt_at 547 (by decide +kernel) (by decide +kernel)
theorem kw_548 : (.code yX2_become cX2_become 3 none : Cond) ∈ GT := gt_at 548 (by decide +kernel) (by decide +kernel)
theorem kw_549 : (.methodLink "ButlerWeather" 194 yX2_invite : Cond) ∈ GT := gt_at 549 (by decide +kernel) (by decide +kernel)
theorem kw_550 : (.constant "ButlerWeather" 201 (-2147483647) : Cond) ∈ GT := gt_at 550 (by decide +kernel) (by decide +kernel)
theorem kw_552 : (.instanceMethod yX6_begin : Cond) ∈ GT := gt_at 552 (by decide +kernel) (by decide +kernel)
theorem kw_553 : (.selects "ButlerWeather" yX6_begin yX6_begin : Cond) ∈ GT := gt_at 553 (by decide +kernel) (by decide +kernel)
theorem kw_554 : (.code yX6_begin cX6_begin 8 (some .int) : Cond) ∈ GT := gt_at 554 (by decide +kernel) (by decide +kernel)
theorem kw_555 : (.methodLink "ButlerWeather" 202 yX2_everIn : Cond) ∈ GT := gt_at 555 (by decide +kernel) (by decide +kernel)
theorem kw_556 : (.instanceMethod yX2_everIn : Cond) ∈ GT := gt_at 556 (by decide +kernel) (by decide +kernel)
theorem kw_557 : (.selects "ButlerWeather$House" yX2_everIn yX2_everIn : Cond) ∈ GT := gt_at 557 (by decide +kernel) (by decide +kernel)
theorem kw_558 : (.code yX2_everIn cX2_everIn 1 (some .int) : Cond) ∈ GT := gt_at 558 (by decide +kernel) (by decide +kernel)
theorem kw_559 : (.methodLink "ButlerWeather" 205 yJ6_bitCount_0f7a4 : Cond) ∈ GT := gt_at 559 (by decide +kernel) (by decide +kernel)
theorem kw_560 : (.static yJ6_bitCount_0f7a4 : Cond) ∈ GT := gt_at 560 (by decide +kernel) (by decide +kernel)
theorem kw_561 : (.code yJ6_bitCount_0f7a4 cJ6_bitCount_0f7a4 1 (some .int) : Cond) ∈ GT := gt_at 561 (by decide +kernel) (by decide +kernel)
theorem kw_562 : (.constant "java/lang/Integer" 265 1431655765 : Cond) ∈ GT := gt_at 562 (by decide +kernel) (by decide +kernel)
theorem kw_563 : (.constant "java/lang/Integer" 266 858993459 : Cond) ∈ GT := gt_at 563 (by decide +kernel) (by decide +kernel)
theorem kw_564 : (.constant "java/lang/Integer" 267 252645135 : Cond) ∈ GT := gt_at 564 (by decide +kernel) (by decide +kernel)
theorem kw_566 : (.instanceMethod yX6_patience : Cond) ∈ GT := gt_at 566 (by decide +kernel) (by decide +kernel)
theorem kw_567 : (.selects "ButlerWeather" yX6_patience yX6_patience : Cond) ∈ GT := gt_at 567 (by decide +kernel) (by decide +kernel)
theorem kw_568 : (.code yX6_patience cX6_patience 4 (some .int) : Cond) ∈ GT := gt_at 568 (by decide +kernel) (by decide +kernel)
theorem kw_570 : (.instanceMethod yX6_burn : Cond) ∈ GT := gt_at 570 (by decide +kernel) (by decide +kernel)
theorem kw_571 : (.selects "ButlerWeather" yX6_burn yX6_burn : Cond) ∈ GT := gt_at 571 (by decide +kernel) (by decide +kernel)
theorem kw_572 : (.code yX6_burn cX6_burn 3 (some .int) : Cond) ∈ GT := gt_at 572 (by decide +kernel) (by decide +kernel)
theorem kw_573 : (.methodLink "ButlerWeather" 210 yX6_cardsToBurn : Cond) ∈ GT := gt_at 573 (by decide +kernel) (by decide +kernel)
theorem kw_575 : (.instanceMethod yX6_cardsToBurn : Cond) ∈ GT := gt_at 575 (by decide +kernel) (by decide +kernel)
theorem kw_576 : (.code yX6_cardsToBurn cX6_cardsToBurn 4 (some .int) : Cond) ∈ GT := gt_at 576 (by decide +kernel) (by decide +kernel)
theorem kw_577 : (.methodLink "ButlerWeather" 394 yX6_noFrostWithout : Cond) ∈ GT := gt_at 577 (by decide +kernel) (by decide +kernel)
theorem kw_579 : (.instanceMethod yX6_noFrostWithout : Cond) ∈ GT := gt_at 579 (by decide +kernel) (by decide +kernel)
theorem kw_580 : (.code yX6_noFrostWithout cX6_noFrostWithout 2 (some .boolean) : Cond) ∈ GT := gt_at 580 (by decide +kernel) (by decide +kernel)
theorem kw_581 : (.methodLink "ButlerWeather" 391 yX2_hasNamed : Cond) ∈ GT := gt_at 581 (by decide +kernel) (by decide +kernel)
theorem kw_582 : (.instanceMethod yX2_hasNamed : Cond) ∈ GT := gt_at 582 (by decide +kernel) (by decide +kernel)
theorem kw_583 : (.selects "ButlerWeather$House" yX2_hasNamed yX2_hasNamed : Cond) ∈ GT := gt_at 583 (by decide +kernel) (by decide +kernel)
theorem kw_584 : (.code yX2_hasNamed cX2_hasNamed 3 (some .boolean) : Cond) ∈ GT := gt_at 584 (by decide +kernel) (by decide +kernel)
theorem kw_585 : (.methodLink "ButlerWeather" 214 yX6_placeOfBit : Cond) ∈ GT := gt_at 585 (by decide +kernel) (by decide +kernel)
theorem kw_586 : (.static yX6_placeOfBit : Cond) ∈ GT := gt_at 586 (by decide +kernel) (by decide +kernel)
theorem kw_587 : (.code yX6_placeOfBit cX6_placeOfBit 4 (some .int) : Cond) ∈ GT := gt_at 587 (by decide +kernel) (by decide +kernel)
theorem kw_592 : (.methodLink "ButlerWeather" 218 yX1_append : Cond) ∈ GT := gt_at 592 (by decide +kernel) (by decide +kernel)
theorem kw_593 : (.instanceMethod yX1_append : Cond) ∈ GT := gt_at 593 (by decide +kernel) (by decide +kernel)
theorem kw_594 : (.selects "ButlerWeather$Felt" yX1_append yX1_append : Cond) ∈ GT := gt_at 594 (by decide +kernel) (by decide +kernel)
theorem kw_595 : (.code yX1_append cX1_append 3 (some .int) : Cond) ∈ GT := gt_at 595 (by decide +kernel) (by decide +kernel)
theorem kw_600 : (.methodLink "ButlerWeather" 220 yX1_clear : Cond) ∈ GT := gt_at 600 (by decide +kernel) (by decide +kernel)
theorem kw_601 : (.instanceMethod yX1_clear : Cond) ∈ GT := gt_at 601 (by decide +kernel) (by decide +kernel)
theorem kw_602 : (.selects "ButlerWeather$Felt" yX1_clear yX1_clear : Cond) ∈ GT := gt_at 602 (by decide +kernel) (by decide +kernel)
theorem kw_603 : (.code yX1_clear cX1_clear 2 (some .int) : Cond) ∈ GT := gt_at 603 (by decide +kernel) (by decide +kernel)
theorem kw_605 : (.instanceMethod yX6_never : Cond) ∈ GT := gt_at 605 (by decide +kernel) (by decide +kernel)
theorem kw_606 : (.selects "ButlerWeather" yX6_never yX6_never : Cond) ∈ GT := gt_at 606 (by decide +kernel) (by decide +kernel)
theorem kw_607 : (.code yX6_never cX6_never 3 (some .int) : Cond) ∈ GT := gt_at 607 (by decide +kernel) (by decide +kernel)
theorem kw_608 : (.methodLink "ButlerWeather" 225 yX1_fits : Cond) ∈ GT := gt_at 608 (by decide +kernel) (by decide +kernel)
theorem kw_609 : (.instanceMethod yX1_fits : Cond) ∈ GT := gt_at 609 (by decide +kernel) (by decide +kernel)
theorem kw_610 : (.selects "ButlerWeather$Felt" yX1_fits yX1_fits : Cond) ∈ GT := gt_at 610 (by decide +kernel) (by decide +kernel)
theorem kw_611 : (.code yX1_fits cX1_fits 3 (some .boolean) : Cond) ∈ GT := gt_at 611 (by decide +kernel) (by decide +kernel)
theorem kw_612 : (.methodLink "ButlerWeather$Felt" 22 yX2_warmthOn : Cond) ∈ GT := gt_at 612 (by decide +kernel) (by decide +kernel)
theorem kw_614 : (.instanceMethod yX6_was : Cond) ∈ GT := gt_at 614 (by decide +kernel) (by decide +kernel)
theorem kw_615 : (.selects "ButlerWeather" yX6_was yX6_was : Cond) ∈ GT := gt_at 615 (by decide +kernel) (by decide +kernel)
theorem kw_616 : (.code yX6_was cX6_was 4 (some .int) : Cond) ∈ GT := gt_at 616 (by decide +kernel) (by decide +kernel)
theorem kw_617 : (.methodLink "ButlerWeather" 229 yX6_sortsThatFit : Cond) ∈ GT := gt_at 617 (by decide +kernel) (by decide +kernel)
theorem kw_619 : (.instanceMethod yX6_sortsThatFit : Cond) ∈ GT := gt_at 619 (by decide +kernel) (by decide +kernel)
theorem kw_620 : (.code yX6_sortsThatFit cX6_sortsThatFit 4 (some .int) : Cond) ∈ GT := gt_at 620 (by decide +kernel) (by decide +kernel)
theorem kw_621 : (.methodLink "ButlerWeather" 232 yX6_waitsThatFit : Cond) ∈ GT := gt_at 621 (by decide +kernel) (by decide +kernel)
theorem kw_623 : (.instanceMethod yX6_waitsThatFit : Cond) ∈ GT := gt_at 623 (by decide +kernel) (by decide +kernel)
theorem kw_624 : (.code yX6_waitsThatFit cX6_waitsThatFit 4 (some .int) : Cond) ∈ GT := gt_at 624 (by decide +kernel) (by decide +kernel)
theorem kw_626 : (.instanceMethod yX6_ask : Cond) ∈ GT := gt_at 626 (by decide +kernel) (by decide +kernel)
theorem kw_627 : (.selects "ButlerWeather" yX6_ask yX6_ask : Cond) ∈ GT := gt_at 627 (by decide +kernel) (by decide +kernel)
theorem kw_628 : (.code yX6_ask cX6_ask 8 (some .int) : Cond) ∈ GT := gt_at 628 (by decide +kernel) (by decide +kernel)
theorem kw_629 : (.methodLink "ButlerWeather" 235 yX3_keepFitting : Cond) ∈ GT := gt_at 629 (by decide +kernel) (by decide +kernel)
theorem kw_630 : (.instanceMethod yX3_keepFitting : Cond) ∈ GT := gt_at 630 (by decide +kernel) (by decide +kernel)
theorem kw_631 : (.selects "ButlerWeather$Odds" yX3_keepFitting yX3_keepFitting : Cond) ∈ GT := gt_at 631 (by decide +kernel) (by decide +kernel)
theorem kw_632 : (.code yX3_keepFitting cX3_keepFitting 7 (some .int) : Cond) ∈ GT := gt_at 632 (by decide +kernel) (by decide +kernel)
theorem kw_633 : (.methodLink "ButlerWeather$Odds" 29 yX2_live : Cond) ∈ GT := gt_at 633 (by decide +kernel) (by decide +kernel)
theorem kw_634 : (.methodLink "ButlerWeather$Odds" 62 yX1_fits : Cond) ∈ GT := gt_at 634 (by decide +kernel) (by decide +kernel)
theorem kw_635 : (.methodLink "ButlerWeather$Odds" 68 yX2_warmthOn : Cond) ∈ GT := gt_at 635 (by decide +kernel) (by decide +kernel)
theorem kw_636 : (.methodLink "ButlerWeather" 239 yX3_greatestAlike : Cond) ∈ GT := gt_at 636 (by decide +kernel) (by decide +kernel)
theorem kw_637 : (.instanceMethod yX3_greatestAlike : Cond) ∈ GT := gt_at 637 (by decide +kernel) (by decide +kernel)
theorem kw_638 : (.selects "ButlerWeather$Odds" yX3_greatestAlike yX3_greatestAlike : Cond) ∈ GT := gt_at 638 (by decide +kernel) (by decide +kernel)
theorem kw_639 : (.code yX3_greatestAlike cX3_greatestAlike 7 (some .int) : Cond) ∈ GT := gt_at 639 (by decide +kernel) (by decide +kernel)
theorem kw_640 : (.methodLink "ButlerWeather$Odds" 71 yJ9_max_7cf53 : Cond) ∈ GT := gt_at 640 (by decide +kernel) (by decide +kernel)
theorem kw_641 : (.static yJ9_max_7cf53 : Cond) ∈ GT := gt_at 641 (by decide +kernel) (by decide +kernel)
theorem kw_642 : (.code yJ9_max_7cf53 cJ9_max_7cf53 2 (some .int) : Cond) ∈ GT := gt_at 642 (by decide +kernel) (by decide +kernel)
theorem kw_644 : (.instanceMethod yX6_chance : Cond) ∈ GT := gt_at 644 (by decide +kernel) (by decide +kernel)
theorem kw_645 : (.selects "ButlerWeather" yX6_chance yX6_chance : Cond) ∈ GT := gt_at 645 (by decide +kernel) (by decide +kernel)
theorem kw_646 : (.code yX6_chance cX6_chance 10 (some .long) : Cond) ∈ GT := gt_at 646 (by decide +kernel) (by decide +kernel)
theorem kw_647 : (.constantLong "ButlerWeather" 242 (-9223372036854775806) : Cond) ∈ GT := gt_at 647 (by decide +kernel) (by decide +kernel)
theorem kw_648 : (.methodLink "ButlerWeather" 247 yX3_countWays : Cond) ∈ GT := gt_at 648 (by decide +kernel) (by decide +kernel)
theorem kw_649 : (.instanceMethod yX3_countWays : Cond) ∈ GT := gt_at 649 (by decide +kernel) (by decide +kernel)
theorem kw_650 : (.selects "ButlerWeather$Odds" yX3_countWays yX3_countWays : Cond) ∈ GT := gt_at 650 (by decide +kernel) (by decide +kernel)
theorem kw_651 : (.code yX3_countWays cX3_countWays 6 none : Cond) ∈ GT := gt_at 651 (by decide +kernel) (by decide +kernel)
theorem kw_652 : (.methodLink "ButlerWeather$Odds" 25 yX0_inviteAllBut : Cond) ∈ GT := gt_at 652 (by decide +kernel) (by decide +kernel)
theorem kw_653 : (.methodLink "ButlerWeather$Odds" 34 yJ6_bitCount_0f7a4 : Cond) ∈ GT := gt_at 653 (by decide +kernel) (by decide +kernel)
theorem kw_655 : (.methodLink "ButlerWeather" 251 yX3_above : Cond) ∈ GT := gt_at 655 (by decide +kernel) (by decide +kernel)
theorem kw_656 : (.instanceMethod yX3_above : Cond) ∈ GT := gt_at 656 (by decide +kernel) (by decide +kernel)
theorem kw_657 : (.selects "ButlerWeather$Odds" yX3_above yX3_above : Cond) ∈ GT := gt_at 657 (by decide +kernel) (by decide +kernel)
theorem kw_658 : (.code yX3_above cX3_above 7 (some .long) : Cond) ∈ GT := gt_at 658 (by decide +kernel) (by decide +kernel)
theorem kw_659 : (.methodLink "ButlerWeather$Odds" 55 yX3_power : Cond) ∈ GT := gt_at 659 (by decide +kernel) (by decide +kernel)
theorem kw_660 : (.static yX3_power : Cond) ∈ GT := gt_at 660 (by decide +kernel) (by decide +kernel)
theorem kw_661 : (.code yX3_power cX3_power 5 (some .long) : Cond) ∈ GT := gt_at 661 (by decide +kernel) (by decide +kernel)
theorem kw_662 : (.constantLong "ButlerWeather" 255 2 : Cond) ∈ GT := gt_at 662 (by decide +kernel) (by decide +kernel)
theorem kw_664 : (.instanceMethod yX6_years : Cond) ∈ GT := gt_at 664 (by decide +kernel) (by decide +kernel)
theorem kw_665 : (.selects "ButlerWeather" yX6_years yX6_years : Cond) ∈ GT := gt_at 665 (by decide +kernel) (by decide +kernel)
theorem kw_666 : (.code yX6_years cX6_years 4 (some .int) : Cond) ∈ GT := gt_at 666 (by decide +kernel) (by decide +kernel)
theorem kw_667 : (.methodLink "ButlerWeather" 257 yX2_uninviteAll : Cond) ∈ GT := gt_at 667 (by decide +kernel) (by decide +kernel)
theorem kw_668 : (.methodLink "ButlerWeather" 260 yX6_inviteByLots : Cond) ∈ GT := gt_at 668 (by decide +kernel) (by decide +kernel)
theorem kw_670 : (.instanceMethod yX6_inviteByLots : Cond) ∈ GT := gt_at 670 (by decide +kernel) (by decide +kernel)
theorem kw_671 : (.code yX6_inviteByLots cX6_inviteByLots 6 none : Cond) ∈ GT := gt_at 671 (by decide +kernel) (by decide +kernel)
theorem kw_672 : (.methodLink "ButlerWeather" 397 yX6_nextSeed : Cond) ∈ GT := gt_at 672 (by decide +kernel) (by decide +kernel)
theorem kw_673 : (.static yX6_nextSeed : Cond) ∈ GT := gt_at 673 (by decide +kernel) (by decide +kernel)
theorem kw_674 : (.code yX6_nextSeed cX6_nextSeed 1 (some .int) : Cond) ∈ GT := gt_at 674 (by decide +kernel) (by decide +kernel)
theorem kw_675 : (.constant "ButlerWeather" 403 1103515245 : Cond) ∈ GT := gt_at 675 (by decide +kernel) (by decide +kernel)
theorem kw_676 : (.methodLink "ButlerWeather" 400 yX6_upperBits : Cond) ∈ GT := gt_at 676 (by decide +kernel) (by decide +kernel)
theorem kw_677 : (.static yX6_upperBits : Cond) ∈ GT := gt_at 677 (by decide +kernel) (by decide +kernel)
theorem kw_678 : (.code yX6_upperBits cX6_upperBits 1 (some .int) : Cond) ∈ GT := gt_at 678 (by decide +kernel) (by decide +kernel)
theorem kw_683 : (.methodLink "ButlerWeather" 263 yX6_isForm : Cond) ∈ GT := gt_at 683 (by decide +kernel) (by decide +kernel)
theorem kw_684 : (.static yX6_isForm : Cond) ∈ GT := gt_at 684 (by decide +kernel) (by decide +kernel)
theorem kw_685 : (.code yX6_isForm cX6_isForm 1 (some .boolean) : Cond) ∈ GT := gt_at 685 (by decide +kernel) (by decide +kernel)
theorem kw_686 : (.methodLink "ButlerWeather" 266 yX4_renew : Cond) ∈ GT := gt_at 686 (by decide +kernel) (by decide +kernel)
theorem kw_687 : (.instanceMethod yX4_renew : Cond) ∈ GT := gt_at 687 (by decide +kernel) (by decide +kernel)
theorem kw_688 : (.selects "ButlerWeather$Sheet" yX4_renew yX4_renew : Cond) ∈ GT := gt_at 688 (by decide +kernel) (by decide +kernel)
theorem kw_689 : (.code yX4_renew cX4_renew 4 none : Cond) ∈ GT := gt_at 689 (by decide +kernel) (by decide +kernel)
theorem kw_694 : (.methodLink "ButlerWeather" 269 yX4_beLost : Cond) ∈ GT := gt_at 694 (by decide +kernel) (by decide +kernel)
theorem kw_695 : (.instanceMethod yX4_beLost : Cond) ∈ GT := gt_at 695 (by decide +kernel) (by decide +kernel)
theorem kw_696 : (.selects "ButlerWeather$Sheet" yX4_beLost yX4_beLost : Cond) ∈ GT := gt_at 696 (by decide +kernel) (by decide +kernel)
theorem kw_697 : (.code yX4_beLost cX4_beLost 2 (some .int) : Cond) ∈ GT := gt_at 697 (by decide +kernel) (by decide +kernel)
theorem kw_702 : (.methodLink "ButlerWeather" 272 yX4_hindrance : Cond) ∈ GT := gt_at 702 (by decide +kernel) (by decide +kernel)
theorem kw_703 : (.instanceMethod yX4_hindrance : Cond) ∈ GT := gt_at 703 (by decide +kernel) (by decide +kernel)
theorem kw_704 : (.selects "ButlerWeather$Sheet" yX4_hindrance yX4_hindrance : Cond) ∈ GT := gt_at 704 (by decide +kernel) (by decide +kernel)
theorem kw_705 : (.code yX4_hindrance cX4_hindrance 3 (some .int) : Cond) ∈ GT := gt_at 705 (by decide +kernel) (by decide +kernel)
theorem kw_706 : (.methodLink "ButlerWeather$Sheet" 22 yX4_isLost : Cond) ∈ GT := gt_at 706 (by decide +kernel) (by decide +kernel)
theorem kw_708 : (.methodLink "ButlerWeather" 275 yX4_store : Cond) ∈ GT := gt_at 708 (by decide +kernel) (by decide +kernel)
theorem kw_709 : (.instanceMethod yX4_store : Cond) ∈ GT := gt_at 709 (by decide +kernel) (by decide +kernel)
theorem kw_710 : (.selects "ButlerWeather$Sheet" yX4_store yX4_store : Cond) ∈ GT := gt_at 710 (by decide +kernel) (by decide +kernel)
theorem kw_711 : (.code yX4_store cX4_store 3 none : Cond) ∈ GT := gt_at 711 (by decide +kernel) (by decide +kernel)
theorem kw_720 : (.methodLink "ButlerWeather" 281 yX4_hasRun : Cond) ∈ GT := gt_at 720 (by decide +kernel) (by decide +kernel)
theorem kw_721 : (.instanceMethod yX4_hasRun : Cond) ∈ GT := gt_at 721 (by decide +kernel) (by decide +kernel)
theorem kw_722 : (.selects "ButlerWeather$Sheet" yX4_hasRun yX4_hasRun : Cond) ∈ GT := gt_at 722 (by decide +kernel) (by decide +kernel)
theorem kw_723 : (.code yX4_hasRun cX4_hasRun 3 (some .boolean) : Cond) ∈ GT := gt_at 723 (by decide +kernel) (by decide +kernel)
theorem kw_724 : (.methodLink "ButlerWeather" 285 ⟨"java/lang/System", "arraycopy", "(Ljava/lang/Object;ILjava/lang/Object;II)V"⟩ : Cond) ∈ GT := gt_at 724 (by decide +kernel) (by decide +kernel)
theorem kw_725 : (.static ⟨"java/lang/System", "arraycopy", "(Ljava/lang/Object;ILjava/lang/Object;II)V"⟩ : Cond) ∈ GT := gt_at 725 (by decide +kernel) (by decide +kernel)
theorem kw_726 : (.native ⟨"java/lang/System", "arraycopy", "(Ljava/lang/Object;ILjava/lang/Object;II)V"⟩ : Cond) ∈ GT := gt_at 726 (by decide +kernel) (by decide +kernel)
theorem kw_731 : (.methodLink "ButlerWeather" 291 yJ9_min_7cf53 : Cond) ∈ GT := gt_at 731 (by decide +kernel) (by decide +kernel)
theorem kw_733 : (.instanceMethod yX6_count : Cond) ∈ GT := gt_at 733 (by decide +kernel) (by decide +kernel)
theorem kw_734 : (.selects "ButlerWeather" yX6_count yX6_count : Cond) ∈ GT := gt_at 734 (by decide +kernel) (by decide +kernel)
theorem kw_735 : (.code yX6_count cX6_count 2 (some .int) : Cond) ∈ GT := gt_at 735 (by decide +kernel) (by decide +kernel)
theorem kw_740 : (.constantLong "ButlerWeather" 299 17 : Cond) ∈ GT := gt_at 740 (by decide +kernel) (by decide +kernel)
theorem kw_741 : (.constantLong "ButlerWeather" 301 31 : Cond) ∈ GT := gt_at 741 (by decide +kernel) (by decide +kernel)
theorem kw_742 : (.methodLink "ButlerWeather" 303 yX6_count : Cond) ∈ GT := gt_at 742 (by decide +kernel) (by decide +kernel)
theorem kw_743 : (.methodLink "ButlerWeather" 306 yX6_fault : Cond) ∈ GT := gt_at 743 (by decide +kernel) (by decide +kernel)
theorem kw_744 : (.methodLink "ButlerWeather" 309 yX6_digestMen : Cond) ∈ GT := gt_at 744 (by decide +kernel) (by decide +kernel)
theorem kw_746 : (.instanceMethod yX6_digestMen : Cond) ∈ GT := gt_at 746 (by decide +kernel) (by decide +kernel)
theorem kw_747 : (.code yX6_digestMen cX6_digestMen 8 (some .long) : Cond) ∈ GT := gt_at 747 (by decide +kernel) (by decide +kernel)
theorem kw_748 : (.methodLink "ButlerWeather" 347 yX6_man : Cond) ∈ GT := gt_at 748 (by decide +kernel) (by decide +kernel)
theorem kw_749 : (.methodLink "ButlerWeather" 350 yX6_begin : Cond) ∈ GT := gt_at 749 (by decide +kernel) (by decide +kernel)
theorem kw_750 : (.methodLink "ButlerWeather" 313 yX6_digestCallers : Cond) ∈ GT := gt_at 750 (by decide +kernel) (by decide +kernel)
theorem kw_752 : (.instanceMethod yX6_digestCallers : Cond) ∈ GT := gt_at 752 (by decide +kernel) (by decide +kernel)
theorem kw_753 : (.code yX6_digestCallers cX6_digestCallers 8 (some .long) : Cond) ∈ GT := gt_at 753 (by decide +kernel) (by decide +kernel)
theorem kw_754 : (.methodLink "ButlerWeather" 353 yX6_caller : Cond) ∈ GT := gt_at 754 (by decide +kernel) (by decide +kernel)
theorem kw_755 : (.methodLink "ButlerWeather" 356 yX6_stands : Cond) ∈ GT := gt_at 755 (by decide +kernel) (by decide +kernel)
theorem kw_756 : (.methodLink "ButlerWeather" 359 yX6_name : Cond) ∈ GT := gt_at 756 (by decide +kernel) (by decide +kernel)
theorem kw_757 : (.methodLink "ButlerWeather" 362 yX6_patience : Cond) ∈ GT := gt_at 757 (by decide +kernel) (by decide +kernel)
theorem kw_758 : (.methodLink "ButlerWeather" 365 yX6_was : Cond) ∈ GT := gt_at 758 (by decide +kernel) (by decide +kernel)
theorem kw_759 : (.methodLink "ButlerWeather" 368 yX6_ask : Cond) ∈ GT := gt_at 759 (by decide +kernel) (by decide +kernel)
theorem kw_760 : (.methodLink "ButlerWeather" 371 yX6_chance : Cond) ∈ GT := gt_at 760 (by decide +kernel) (by decide +kernel)
theorem kw_761 : (.methodLink "ButlerWeather" 316 yX6_digestDays : Cond) ∈ GT := gt_at 761 (by decide +kernel) (by decide +kernel)
theorem kw_763 : (.instanceMethod yX6_digestDays : Cond) ∈ GT := gt_at 763 (by decide +kernel) (by decide +kernel)
theorem kw_764 : (.code yX6_digestDays cX6_digestDays 7 (some .long) : Cond) ∈ GT := gt_at 764 (by decide +kernel) (by decide +kernel)
theorem kw_765 : (.methodLink "ButlerWeather" 374 yX6_door : Cond) ∈ GT := gt_at 765 (by decide +kernel) (by decide +kernel)
theorem kw_766 : (.methodLink "ButlerWeather" 377 yX6_warmth : Cond) ∈ GT := gt_at 766 (by decide +kernel) (by decide +kernel)
theorem kw_767 : (.methodLink "ButlerWeather" 319 yX6_coldest : Cond) ∈ GT := gt_at 767 (by decide +kernel) (by decide +kernel)
theorem kw_768 : (.methodLink "ButlerWeather" 322 yX6_first : Cond) ∈ GT := gt_at 768 (by decide +kernel) (by decide +kernel)
theorem kw_769 : (.methodLink "ButlerWeather" 325 yX6_sent : Cond) ∈ GT := gt_at 769 (by decide +kernel) (by decide +kernel)
theorem kw_770 : (.methodLink "ButlerWeather" 328 yX6_wrong : Cond) ∈ GT := gt_at 770 (by decide +kernel) (by decide +kernel)
theorem kw_771 : (.methodLink "ButlerWeather" 331 yX6_sum : Cond) ∈ GT := gt_at 771 (by decide +kernel) (by decide +kernel)
theorem kw_772 : (.methodLink "ButlerWeather" 334 yX6_leave : Cond) ∈ GT := gt_at 772 (by decide +kernel) (by decide +kernel)
theorem kw_773 : (.methodLink "ButlerWeather" 337 yX6_burn : Cond) ∈ GT := gt_at 773 (by decide +kernel) (by decide +kernel)
theorem kw_774 : (.methodLink "ButlerWeather" 340 yX6_never : Cond) ∈ GT := gt_at 774 (by decide +kernel) (by decide +kernel)
theorem kw_775 : (.methodLink "ButlerWeather" 343 yX6_years : Cond) ∈ GT := gt_at 775 (by decide +kernel) (by decide +kernel)
theorem kw_782 : (.fieldLink "ButlerWeatherModel" 7 "ButlerWeatherModel" "typed" "[I" : Cond) ∈ GT := gt_at 782 (by decide +kernel) (by decide +kernel)
theorem kw_783 : (.fieldLink "ButlerWeatherModel" 13 "ButlerWeatherModel" "texts" "[I" : Cond) ∈ GT := gt_at 783 (by decide +kernel) (by decide +kernel)
theorem kw_784 : (.fieldLink "ButlerWeatherModel" 116 "ButlerWeatherModel" "callers" "I" : Cond) ∈ GT := gt_at 784 (by decide +kernel) (by decide +kernel)
theorem kw_785 : (.fieldLink "ButlerWeatherModel" 16 "ButlerWeatherModel" "sorts" "[I" : Cond) ∈ GT := gt_at 785 (by decide +kernel) (by decide +kernel)
theorem kw_786 : (.fieldLink "ButlerWeatherModel" 19 "ButlerWeatherModel" "waits" "[I" : Cond) ∈ GT := gt_at 786 (by decide +kernel) (by decide +kernel)
theorem kw_787 : (.fieldLink "ButlerWeatherModel" 22 "ButlerWeatherModel" "comes" "[I" : Cond) ∈ GT := gt_at 787 (by decide +kernel) (by decide +kernel)
theorem kw_788 : (.fieldLink "ButlerWeatherModel" 25 "ButlerWeatherModel" "forces" "[I" : Cond) ∈ GT := gt_at 788 (by decide +kernel) (by decide +kernel)
theorem kw_789 : (.fieldLink "ButlerWeatherModel" 120 "ButlerWeatherModel" "men" "I" : Cond) ∈ GT := gt_at 789 (by decide +kernel) (by decide +kernel)
theorem kw_790 : (.fieldLink "ButlerWeatherModel" 28 "ButlerWeatherModel" "juniors" "[I" : Cond) ∈ GT := gt_at 790 (by decide +kernel) (by decide +kernel)
theorem kw_791 : (.fieldLink "ButlerWeatherModel" 31 "ButlerWeatherModel" "froms" "[I" : Cond) ∈ GT := gt_at 791 (by decide +kernel) (by decide +kernel)
theorem kw_792 : (.fieldLink "ButlerWeatherModel" 34 "ButlerWeatherModel" "untils" "[I" : Cond) ∈ GT := gt_at 792 (by decide +kernel) (by decide +kernel)
theorem kw_793 : (.fieldLink "ButlerWeatherModel" 153 "ButlerWeatherModel" "cards" "I" : Cond) ∈ GT := gt_at 793 (by decide +kernel) (by decide +kernel)
theorem kw_794 : (.fieldLink "ButlerWeatherModel" 37 "ButlerWeatherModel" "cardDay" "[I" : Cond) ∈ GT := gt_at 794 (by decide +kernel) (by decide +kernel)
theorem kw_795 : (.fieldLink "ButlerWeatherModel" 40 "ButlerWeatherModel" "cardFor" "[I" : Cond) ∈ GT := gt_at 795 (by decide +kernel) (by decide +kernel)
theorem kw_796 : (.fieldLink "ButlerWeatherModel" 165 "ButlerWeatherModel" "cardsNow" "I" : Cond) ∈ GT := gt_at 796 (by decide +kernel) (by decide +kernel)
theorem kw_797 : (.fieldLink "ButlerWeatherModel" 43 "ButlerWeatherModel" "dayNow" "[I" : Cond) ∈ GT := gt_at 797 (by decide +kernel) (by decide +kernel)
theorem kw_798 : (.fieldLink "ButlerWeatherModel" 46 "ButlerWeatherModel" "forNow" "[I" : Cond) ∈ GT := gt_at 798 (by decide +kernel) (by decide +kernel)
theorem kw_799 : (.fieldLink "ButlerWeatherModel" 168 "ButlerWeatherModel" "notCards" "I" : Cond) ∈ GT := gt_at 799 (by decide +kernel) (by decide +kernel)
theorem kw_800 : (.fieldLink "ButlerWeatherModel" 49 "ButlerWeatherModel" "is" "[I" : Cond) ∈ GT := gt_at 800 (by decide +kernel) (by decide +kernel)
theorem kw_801 : (.fieldLink "ButlerWeatherModel" 52 "ButlerWeatherModel" "since" "[I" : Cond) ∈ GT := gt_at 801 (by decide +kernel) (by decide +kernel)
theorem kw_802 : (.fieldLink "ButlerWeatherModel" 55 "ButlerWeatherModel" "names" "[I" : Cond) ∈ GT := gt_at 802 (by decide +kernel) (by decide +kernel)
theorem kw_803 : (.fieldLink "ButlerWeatherModel" 182 "ButlerWeatherModel" "firstDay" "I" : Cond) ∈ GT := gt_at 803 (by decide +kernel) (by decide +kernel)
theorem kw_804 : (.fieldLink "ButlerWeatherModel" 185 "ButlerWeatherModel" "firstWho" "I" : Cond) ∈ GT := gt_at 804 (by decide +kernel) (by decide +kernel)
theorem kw_805 : (.fieldLink "ButlerWeatherModel" 58 "ButlerWeatherModel" "isAt" "[I" : Cond) ∈ GT := gt_at 805 (by decide +kernel) (by decide +kernel)
theorem kw_806 : (.fieldLink "ButlerWeatherModel" 61 "ButlerWeatherModel" "doorAt" "[I" : Cond) ∈ GT := gt_at 806 (by decide +kernel) (by decide +kernel)
theorem kw_807 : (.fieldLink "ButlerWeatherModel" 64 "ButlerWeatherModel" "hatsAt" "[I" : Cond) ∈ GT := gt_at 807 (by decide +kernel) (by decide +kernel)
theorem kw_808 : (.fieldLink "ButlerWeatherModel" 67 "ButlerWeatherModel" "warmAt" "[I" : Cond) ∈ GT := gt_at 808 (by decide +kernel) (by decide +kernel)
theorem kw_809 : (.fieldLink "ButlerWeatherModel" 70 "ButlerWeatherModel" "planRow" "[I" : Cond) ∈ GT := gt_at 809 (by decide +kernel) (by decide +kernel)
theorem kw_810 : (.fieldLink "ButlerWeatherModel" 274 "ButlerWeatherModel" "felt" "I" : Cond) ∈ GT := gt_at 810 (by decide +kernel) (by decide +kernel)
theorem kw_811 : (.fieldLink "ButlerWeatherModel" 73 "ButlerWeatherModel" "feltDay" "[I" : Cond) ∈ GT := gt_at 811 (by decide +kernel) (by decide +kernel)
theorem kw_812 : (.fieldLink "ButlerWeatherModel" 76 "ButlerWeatherModel" "feltWarm" "[I" : Cond) ∈ GT := gt_at 812 (by decide +kernel) (by decide +kernel)
theorem kw_813 : (.fieldLink "ButlerWeatherModel" 79 "ButlerWeatherModel" "warmBy" "[I" : Cond) ∈ GT := gt_at 813 (by decide +kernel) (by decide +kernel)
theorem kw_814 : (.fieldLink "ButlerWeatherModel" 82 "ButlerWeatherModel" "isThere" "[Z" : Cond) ∈ GT := gt_at 814 (by decide +kernel) (by decide +kernel)
theorem kw_815 : (.fieldLink "ButlerWeatherModel" 86 "ButlerWeatherModel" "forms" "[I" : Cond) ∈ GT := gt_at 815 (by decide +kernel) (by decide +kernel)
theorem kw_816 : (.fieldLink "ButlerWeatherModel" 89 "ButlerWeatherModel" "sizes" "[I" : Cond) ∈ GT := gt_at 816 (by decide +kernel) (by decide +kernel)
theorem kw_817 : (.fieldLink "ButlerWeatherModel" 92 "ButlerWeatherModel" "items" "[I" : Cond) ∈ GT := gt_at 817 (by decide +kernel) (by decide +kernel)
theorem kw_818 : (.fieldLink "ButlerWeatherModel" 95 "ButlerWeatherModel" "moved" "[I" : Cond) ∈ GT := gt_at 818 (by decide +kernel) (by decide +kernel)
theorem kw_819 : (.fieldLink "ButlerWeatherModel" 310 "ButlerWeatherModel" "finding" "I" : Cond) ∈ GT := gt_at 819 (by decide +kernel) (by decide +kernel)
theorem kw_902 : (.methodLink "ButlerWeatherModel" 104 yX7_isText : Cond) ∈ GT := gt_at 902 (by decide +kernel) (by decide +kernel)
theorem kw_903 : (.static yX7_isText : Cond) ∈ GT := gt_at 903 (by decide +kernel) (by decide +kernel)
theorem kw_904 : (.code yX7_isText cX7_isText 1 (some .boolean) : Cond) ∈ GT := gt_at 904 (by decide +kernel) (by decide +kernel)
theorem kw_905 : (.methodLink "ButlerWeatherModel" 100 yX7_in : Cond) ∈ GT := gt_at 905 (by decide +kernel) (by decide +kernel)
theorem kw_906 : (.static yX7_in : Cond) ∈ GT := gt_at 906 (by decide +kernel) (by decide +kernel)
theorem kw_907 : (.code yX7_in cX7_in 3 (some .boolean) : Cond) ∈ GT := gt_at 907 (by decide +kernel) (by decide +kernel)
theorem kw_920 : (.methodLink "ButlerWeatherModel" 132 yX7_faultOf : Cond) ∈ GT := gt_at 920 (by decide +kernel) (by decide +kernel)
theorem kw_922 : (.instanceMethod yX7_faultOf : Cond) ∈ GT := gt_at 922 (by decide +kernel) (by decide +kernel)
theorem kw_923 : (.code yX7_faultOf cX7_faultOf 4 (some .int) : Cond) ∈ GT := gt_at 923 (by decide +kernel) (by decide +kernel)
theorem kw_924 : (.methodLink "ButlerWeatherModel" 129 yX7_readsParts : Cond) ∈ GT := gt_at 924 (by decide +kernel) (by decide +kernel)
theorem kw_926 : (.instanceMethod yX7_readsParts : Cond) ∈ GT := gt_at 926 (by decide +kernel) (by decide +kernel)
theorem kw_927 : (.code yX7_readsParts cX7_readsParts 6 (some .int) : Cond) ∈ GT := gt_at 927 (by decide +kernel) (by decide +kernel)
theorem kw_928 : (.methodLink "ButlerWeatherModel" 123 yX7_readsCaller : Cond) ∈ GT := gt_at 928 (by decide +kernel) (by decide +kernel)
theorem kw_930 : (.instanceMethod yX7_readsCaller : Cond) ∈ GT := gt_at 930 (by decide +kernel) (by decide +kernel)
theorem kw_931 : (.code yX7_readsCaller cX7_readsCaller 7 (some .int) : Cond) ∈ GT := gt_at 931 (by decide +kernel) (by decide +kernel)
theorem kw_932 : (.methodLink "ButlerWeatherModel" 108 yX7_byteAt : Cond) ∈ GT := gt_at 932 (by decide +kernel) (by decide +kernel)
theorem kw_934 : (.instanceMethod yX7_byteAt : Cond) ∈ GT := gt_at 934 (by decide +kernel) (by decide +kernel)
theorem kw_935 : (.code yX7_byteAt cX7_byteAt 3 (some .int) : Cond) ∈ GT := gt_at 935 (by decide +kernel) (by decide +kernel)
theorem kw_936 : (.methodLink "ButlerWeatherModel" 112 yX7_sortOf : Cond) ∈ GT := gt_at 936 (by decide +kernel) (by decide +kernel)
theorem kw_937 : (.static yX7_sortOf : Cond) ∈ GT := gt_at 937 (by decide +kernel) (by decide +kernel)
theorem kw_938 : (.code yX7_sortOf cX7_sortOf 1 (some .int) : Cond) ∈ GT := gt_at 938 (by decide +kernel) (by decide +kernel)
theorem kw_939 : (.methodLink "ButlerWeatherModel" 126 yX7_readsMan : Cond) ∈ GT := gt_at 939 (by decide +kernel) (by decide +kernel)
theorem kw_941 : (.instanceMethod yX7_readsMan : Cond) ∈ GT := gt_at 941 (by decide +kernel) (by decide +kernel)
theorem kw_942 : (.code yX7_readsMan cX7_readsMan 6 (some .int) : Cond) ∈ GT := gt_at 942 (by decide +kernel) (by decide +kernel)
theorem kw_947 : (.methodLink "ButlerWeatherModel" 138 yX7_isCaller : Cond) ∈ GT := gt_at 947 (by decide +kernel) (by decide +kernel)
theorem kw_949 : (.instanceMethod yX7_isCaller : Cond) ∈ GT := gt_at 949 (by decide +kernel) (by decide +kernel)
theorem kw_950 : (.code yX7_isCaller cX7_isCaller 2 (some .boolean) : Cond) ∈ GT := gt_at 950 (by decide +kernel) (by decide +kernel)
theorem kw_951 : (.methodLink "ButlerWeatherModel" 135 yX7_reads : Cond) ∈ GT := gt_at 951 (by decide +kernel) (by decide +kernel)
theorem kw_953 : (.instanceMethod yX7_reads : Cond) ∈ GT := gt_at 953 (by decide +kernel) (by decide +kernel)
theorem kw_954 : (.code yX7_reads cX7_reads 2 none : Cond) ∈ GT := gt_at 954 (by decide +kernel) (by decide +kernel)
theorem kw_955 : (.methodLink "ButlerWeatherModel" 141 yX7_callerOf : Cond) ∈ GT := gt_at 955 (by decide +kernel) (by decide +kernel)
theorem kw_957 : (.instanceMethod yX7_callerOf : Cond) ∈ GT := gt_at 957 (by decide +kernel) (by decide +kernel)
theorem kw_958 : (.code yX7_callerOf cX7_callerOf 3 (some .int) : Cond) ∈ GT := gt_at 958 (by decide +kernel) (by decide +kernel)
theorem kw_963 : (.methodLink "ButlerWeatherModel" 144 yX7_isMan : Cond) ∈ GT := gt_at 963 (by decide +kernel) (by decide +kernel)
theorem kw_965 : (.instanceMethod yX7_isMan : Cond) ∈ GT := gt_at 965 (by decide +kernel) (by decide +kernel)
theorem kw_966 : (.code yX7_isMan cX7_isMan 2 (some .boolean) : Cond) ∈ GT := gt_at 966 (by decide +kernel) (by decide +kernel)
theorem kw_967 : (.methodLink "ButlerWeatherModel" 147 yX7_manOf : Cond) ∈ GT := gt_at 967 (by decide +kernel) (by decide +kernel)
theorem kw_969 : (.instanceMethod yX7_manOf : Cond) ∈ GT := gt_at 969 (by decide +kernel) (by decide +kernel)
theorem kw_970 : (.code yX7_manOf cX7_manOf 3 (some .int) : Cond) ∈ GT := gt_at 970 (by decide +kernel) (by decide +kernel)
theorem kw_972 : (.instanceMethod yX7_card : Cond) ∈ GT := gt_at 972 (by decide +kernel) (by decide +kernel)
theorem kw_973 : (.selects "ButlerWeatherModel" yX7_card yX7_card : Cond) ∈ GT := gt_at 973 (by decide +kernel) (by decide +kernel)
theorem kw_974 : (.code yX7_card cX7_card 3 (some .int) : Cond) ∈ GT := gt_at 974 (by decide +kernel) (by decide +kernel)
theorem kw_975 : (.methodLink "ButlerWeatherModel" 150 yX7_isDay : Cond) ∈ GT := gt_at 975 (by decide +kernel) (by decide +kernel)
theorem kw_976 : (.static yX7_isDay : Cond) ∈ GT := gt_at 976 (by decide +kernel) (by decide +kernel)
theorem kw_977 : (.code yX7_isDay cX7_isDay 1 (some .boolean) : Cond) ∈ GT := gt_at 977 (by decide +kernel) (by decide +kernel)
theorem kw_986 : (.methodLink "ButlerWeatherModel" 156 yX7_isSheet : Cond) ∈ GT := gt_at 986 (by decide +kernel) (by decide +kernel)
theorem kw_987 : (.static yX7_isSheet : Cond) ∈ GT := gt_at 987 (by decide +kernel) (by decide +kernel)
theorem kw_988 : (.code yX7_isSheet cX7_isSheet 1 (some .boolean) : Cond) ∈ GT := gt_at 988 (by decide +kernel) (by decide +kernel)
theorem kw_989 : (.methodLink "ButlerWeatherModel" 159 yX7_meets : Cond) ∈ GT := gt_at 989 (by decide +kernel) (by decide +kernel)
theorem kw_991 : (.instanceMethod yX7_meets : Cond) ∈ GT := gt_at 991 (by decide +kernel) (by decide +kernel)
theorem kw_992 : (.code yX7_meets cX7_meets 2 (some .int) : Cond) ∈ GT := gt_at 992 (by decide +kernel) (by decide +kernel)
theorem kw_993 : (.methodLink "ButlerWeatherModel" 162 yX7_card : Cond) ∈ GT := gt_at 993 (by decide +kernel) (by decide +kernel)
theorem kw_998 : (.methodLink "ButlerWeatherModel" 214 yX7_standsOf : Cond) ∈ GT := gt_at 998 (by decide +kernel) (by decide +kernel)
theorem kw_1000 : (.instanceMethod yX7_standsOf : Cond) ∈ GT := gt_at 1000 (by decide +kernel) (by decide +kernel)
theorem kw_1001 : (.code yX7_standsOf cX7_standsOf 3 (some .int) : Cond) ∈ GT := gt_at 1001 (by decide +kernel) (by decide +kernel)
theorem kw_1002 : (.methodLink "ButlerWeatherModel" 211 yX7_runsTold : Cond) ∈ GT := gt_at 1002 (by decide +kernel) (by decide +kernel)
theorem kw_1004 : (.instanceMethod yX7_runsTold : Cond) ∈ GT := gt_at 1004 (by decide +kernel) (by decide +kernel)
theorem kw_1005 : (.code yX7_runsTold cX7_runsTold 1 none : Cond) ∈ GT := gt_at 1005 (by decide +kernel) (by decide +kernel)
theorem kw_1006 : (.methodLink "ButlerWeatherModel" 205 yX7_asTold : Cond) ∈ GT := gt_at 1006 (by decide +kernel) (by decide +kernel)
theorem kw_1008 : (.instanceMethod yX7_asTold : Cond) ∈ GT := gt_at 1008 (by decide +kernel) (by decide +kernel)
theorem kw_1009 : (.code yX7_asTold cX7_asTold 2 none : Cond) ∈ GT := gt_at 1009 (by decide +kernel) (by decide +kernel)
theorem kw_1010 : (.methodLink "ButlerWeatherModel" 208 yX7_runs : Cond) ∈ GT := gt_at 1010 (by decide +kernel) (by decide +kernel)
theorem kw_1012 : (.instanceMethod yX7_runs : Cond) ∈ GT := gt_at 1012 (by decide +kernel) (by decide +kernel)
theorem kw_1013 : (.code yX7_runs cX7_runs 2 none : Cond) ∈ GT := gt_at 1013 (by decide +kernel) (by decide +kernel)
theorem kw_1014 : (.methodLink "ButlerWeatherModel" 202 yX7_goesBy : Cond) ∈ GT := gt_at 1014 (by decide +kernel) (by decide +kernel)
theorem kw_1016 : (.instanceMethod yX7_goesBy : Cond) ∈ GT := gt_at 1016 (by decide +kernel) (by decide +kernel)
theorem kw_1017 : (.code yX7_goesBy cX7_goesBy 3 none : Cond) ∈ GT := gt_at 1017 (by decide +kernel) (by decide +kernel)
theorem kw_1018 : (.methodLink "ButlerWeatherModel" 188 yX7_arrives : Cond) ∈ GT := gt_at 1018 (by decide +kernel) (by decide +kernel)
theorem kw_1020 : (.instanceMethod yX7_arrives : Cond) ∈ GT := gt_at 1020 (by decide +kernel) (by decide +kernel)
theorem kw_1021 : (.code yX7_arrives cX7_arrives 3 none : Cond) ∈ GT := gt_at 1021 (by decide +kernel) (by decide +kernel)
theorem kw_1022 : (.methodLink "ButlerWeatherModel" 171 yX7_letsIn : Cond) ∈ GT := gt_at 1022 (by decide +kernel) (by decide +kernel)
theorem kw_1024 : (.instanceMethod yX7_letsIn : Cond) ∈ GT := gt_at 1024 (by decide +kernel) (by decide +kernel)
theorem kw_1025 : (.code yX7_letsIn cX7_letsIn 4 none : Cond) ∈ GT := gt_at 1025 (by decide +kernel) (by decide +kernel)
theorem kw_1026 : (.methodLink "ButlerWeatherModel" 192 yX7_onDuty : Cond) ∈ GT := gt_at 1026 (by decide +kernel) (by decide +kernel)
theorem kw_1028 : (.instanceMethod yX7_onDuty : Cond) ∈ GT := gt_at 1028 (by decide +kernel) (by decide +kernel)
theorem kw_1029 : (.code yX7_onDuty cX7_onDuty 3 (some .int) : Cond) ∈ GT := gt_at 1029 (by decide +kernel) (by decide +kernel)
theorem kw_1030 : (.methodLink "ButlerWeatherModel" 195 yX7_opens : Cond) ∈ GT := gt_at 1030 (by decide +kernel) (by decide +kernel)
theorem kw_1032 : (.instanceMethod yX7_opens : Cond) ∈ GT := gt_at 1032 (by decide +kernel) (by decide +kernel)
theorem kw_1033 : (.code yX7_opens cX7_opens 5 none : Cond) ∈ GT := gt_at 1033 (by decide +kernel) (by decide +kernel)
theorem kw_1034 : (.methodLink "ButlerWeatherModel" 179 yX7_hasCard : Cond) ∈ GT := gt_at 1034 (by decide +kernel) (by decide +kernel)
theorem kw_1036 : (.instanceMethod yX7_hasCard : Cond) ∈ GT := gt_at 1036 (by decide +kernel) (by decide +kernel)
theorem kw_1037 : (.code yX7_hasCard cX7_hasCard 5 (some .boolean) : Cond) ∈ GT := gt_at 1037 (by decide +kernel) (by decide +kernel)
theorem kw_1038 : (.methodLink "ButlerWeatherModel" 175 yX7_isIn : Cond) ∈ GT := gt_at 1038 (by decide +kernel) (by decide +kernel)
theorem kw_1039 : (.static yX7_isIn : Cond) ∈ GT := gt_at 1039 (by decide +kernel) (by decide +kernel)
theorem kw_1040 : (.code yX7_isIn cX7_isIn 2 (some .boolean) : Cond) ∈ GT := gt_at 1040 (by decide +kernel) (by decide +kernel)
theorem kw_1041 : (.methodLink "ButlerWeatherModel" 199 yX7_warms : Cond) ∈ GT := gt_at 1041 (by decide +kernel) (by decide +kernel)
theorem kw_1042 : (.static yX7_warms : Cond) ∈ GT := gt_at 1042 (by decide +kernel) (by decide +kernel)
theorem kw_1043 : (.code yX7_warms cX7_warms 1 (some .int) : Cond) ∈ GT := gt_at 1043 (by decide +kernel) (by decide +kernel)
theorem kw_1048 : (.methodLink "ButlerWeatherModel" 217 yX7_nameOf : Cond) ∈ GT := gt_at 1048 (by decide +kernel) (by decide +kernel)
theorem kw_1050 : (.instanceMethod yX7_nameOf : Cond) ∈ GT := gt_at 1050 (by decide +kernel) (by decide +kernel)
theorem kw_1051 : (.code yX7_nameOf cX7_nameOf 2 (some .int) : Cond) ∈ GT := gt_at 1051 (by decide +kernel) (by decide +kernel)
theorem kw_1056 : (.methodLink "ButlerWeatherModel" 220 yX7_doorOf : Cond) ∈ GT := gt_at 1056 (by decide +kernel) (by decide +kernel)
theorem kw_1058 : (.instanceMethod yX7_doorOf : Cond) ∈ GT := gt_at 1058 (by decide +kernel) (by decide +kernel)
theorem kw_1059 : (.code yX7_doorOf cX7_doorOf 5 (some .int) : Cond) ∈ GT := gt_at 1059 (by decide +kernel) (by decide +kernel)
theorem kw_1064 : (.methodLink "ButlerWeatherModel" 223 yX7_warmthOf : Cond) ∈ GT := gt_at 1064 (by decide +kernel) (by decide +kernel)
theorem kw_1066 : (.instanceMethod yX7_warmthOf : Cond) ∈ GT := gt_at 1066 (by decide +kernel) (by decide +kernel)
theorem kw_1067 : (.code yX7_warmthOf cX7_warmthOf 2 (some .int) : Cond) ∈ GT := gt_at 1067 (by decide +kernel) (by decide +kernel)
theorem kw_1068 : (.constant "ButlerWeatherModel" 226 (-2147483648) : Cond) ∈ GT := gt_at 1068 (by decide +kernel) (by decide +kernel)
theorem kw_1073 : (.methodLink "ButlerWeatherModel" 227 yX7_coldestOf : Cond) ∈ GT := gt_at 1073 (by decide +kernel) (by decide +kernel)
theorem kw_1075 : (.instanceMethod yX7_coldestOf : Cond) ∈ GT := gt_at 1075 (by decide +kernel) (by decide +kernel)
theorem kw_1076 : (.code yX7_coldestOf cX7_coldestOf 3 (some .int) : Cond) ∈ GT := gt_at 1076 (by decide +kernel) (by decide +kernel)
theorem kw_1081 : (.methodLink "ButlerWeatherModel" 231 yX7_isTwo : Cond) ∈ GT := gt_at 1081 (by decide +kernel) (by decide +kernel)
theorem kw_1082 : (.static yX7_isTwo : Cond) ∈ GT := gt_at 1082 (by decide +kernel) (by decide +kernel)
theorem kw_1083 : (.code yX7_isTwo cX7_isTwo 1 (some .boolean) : Cond) ∈ GT := gt_at 1083 (by decide +kernel) (by decide +kernel)
theorem kw_1084 : (.methodLink "ButlerWeatherModel" 234 yX7_firstOf : Cond) ∈ GT := gt_at 1084 (by decide +kernel) (by decide +kernel)
theorem kw_1086 : (.instanceMethod yX7_firstOf : Cond) ∈ GT := gt_at 1086 (by decide +kernel) (by decide +kernel)
theorem kw_1087 : (.code yX7_firstOf cX7_firstOf 2 (some .int) : Cond) ∈ GT := gt_at 1087 (by decide +kernel) (by decide +kernel)
theorem kw_1092 : (.methodLink "ButlerWeatherModel" 240 yX7_sentOf : Cond) ∈ GT := gt_at 1092 (by decide +kernel) (by decide +kernel)
theorem kw_1094 : (.instanceMethod yX7_sentOf : Cond) ∈ GT := gt_at 1094 (by decide +kernel) (by decide +kernel)
theorem kw_1095 : (.code yX7_sentOf cX7_sentOf 1 (some .int) : Cond) ∈ GT := gt_at 1095 (by decide +kernel) (by decide +kernel)
theorem kw_1096 : (.methodLink "ButlerWeatherModel" 237 yX7_sentNow : Cond) ∈ GT := gt_at 1096 (by decide +kernel) (by decide +kernel)
theorem kw_1098 : (.instanceMethod yX7_sentNow : Cond) ∈ GT := gt_at 1098 (by decide +kernel) (by decide +kernel)
theorem kw_1099 : (.code yX7_sentNow cX7_sentNow 3 (some .int) : Cond) ∈ GT := gt_at 1099 (by decide +kernel) (by decide +kernel)
theorem kw_1104 : (.methodLink "ButlerWeatherModel" 243 yX7_wrongOf : Cond) ∈ GT := gt_at 1104 (by decide +kernel) (by decide +kernel)
theorem kw_1106 : (.instanceMethod yX7_wrongOf : Cond) ∈ GT := gt_at 1106 (by decide +kernel) (by decide +kernel)
theorem kw_1107 : (.code yX7_wrongOf cX7_wrongOf 3 (some .int) : Cond) ∈ GT := gt_at 1107 (by decide +kernel) (by decide +kernel)
theorem kw_1112 : (.methodLink "ButlerWeatherModel" 249 yX7_sumOf : Cond) ∈ GT := gt_at 1112 (by decide +kernel) (by decide +kernel)
theorem kw_1114 : (.instanceMethod yX7_sumOf : Cond) ∈ GT := gt_at 1114 (by decide +kernel) (by decide +kernel)
theorem kw_1115 : (.code yX7_sumOf cX7_sumOf 1 (some .int) : Cond) ∈ GT := gt_at 1115 (by decide +kernel) (by decide +kernel)
theorem kw_1116 : (.methodLink "ButlerWeatherModel" 246 yX7_sumNow : Cond) ∈ GT := gt_at 1116 (by decide +kernel) (by decide +kernel)
theorem kw_1118 : (.instanceMethod yX7_sumNow : Cond) ∈ GT := gt_at 1118 (by decide +kernel) (by decide +kernel)
theorem kw_1119 : (.code yX7_sumNow cX7_sumNow 3 (some .int) : Cond) ∈ GT := gt_at 1119 (by decide +kernel) (by decide +kernel)
theorem kw_1124 : (.methodLink "ButlerWeatherModel" 253 yX7_leaveOf : Cond) ∈ GT := gt_at 1124 (by decide +kernel) (by decide +kernel)
theorem kw_1126 : (.instanceMethod yX7_leaveOf : Cond) ∈ GT := gt_at 1126 (by decide +kernel) (by decide +kernel)
theorem kw_1127 : (.code yX7_leaveOf cX7_leaveOf 8 (some .int) : Cond) ∈ GT := gt_at 1127 (by decide +kernel) (by decide +kernel)
theorem kw_1128 : (.constant "ButlerWeatherModel" 252 (-2147483647) : Cond) ∈ GT := gt_at 1128 (by decide +kernel) (by decide +kernel)
theorem kw_1133 : (.methodLink "ButlerWeatherModel" 259 yX7_beginOf : Cond) ∈ GT := gt_at 1133 (by decide +kernel) (by decide +kernel)
theorem kw_1135 : (.instanceMethod yX7_beginOf : Cond) ∈ GT := gt_at 1135 (by decide +kernel) (by decide +kernel)
theorem kw_1136 : (.code yX7_beginOf cX7_beginOf 8 (some .int) : Cond) ∈ GT := gt_at 1136 (by decide +kernel) (by decide +kernel)
theorem kw_1137 : (.methodLink "ButlerWeatherModel" 256 yX7_insNow : Cond) ∈ GT := gt_at 1137 (by decide +kernel) (by decide +kernel)
theorem kw_1139 : (.instanceMethod yX7_insNow : Cond) ∈ GT := gt_at 1139 (by decide +kernel) (by decide +kernel)
theorem kw_1140 : (.code yX7_insNow cX7_insNow 3 (some .int) : Cond) ∈ GT := gt_at 1140 (by decide +kernel) (by decide +kernel)
theorem kw_1145 : (.methodLink "ButlerWeatherModel" 262 yX7_waitOf : Cond) ∈ GT := gt_at 1145 (by decide +kernel) (by decide +kernel)
theorem kw_1147 : (.instanceMethod yX7_waitOf : Cond) ∈ GT := gt_at 1147 (by decide +kernel) (by decide +kernel)
theorem kw_1148 : (.code yX7_waitOf cX7_waitOf 5 (some .int) : Cond) ∈ GT := gt_at 1148 (by decide +kernel) (by decide +kernel)
theorem kw_1153 : (.methodLink "ButlerWeatherModel" 268 yX7_burnBy : Cond) ∈ GT := gt_at 1153 (by decide +kernel) (by decide +kernel)
theorem kw_1155 : (.instanceMethod yX7_burnBy : Cond) ∈ GT := gt_at 1155 (by decide +kernel) (by decide +kernel)
theorem kw_1156 : (.code yX7_burnBy cX7_burnBy 3 (some .int) : Cond) ∈ GT := gt_at 1156 (by decide +kernel) (by decide +kernel)
theorem kw_1157 : (.methodLink "ButlerWeatherModel" 265 yX7_isBurnt : Cond) ∈ GT := gt_at 1157 (by decide +kernel) (by decide +kernel)
theorem kw_1159 : (.instanceMethod yX7_isBurnt : Cond) ∈ GT := gt_at 1159 (by decide +kernel) (by decide +kernel)
theorem kw_1160 : (.code yX7_isBurnt cX7_isBurnt 4 (some .boolean) : Cond) ∈ GT := gt_at 1160 (by decide +kernel) (by decide +kernel)
theorem kw_1161 : (.methodLink "ButlerWeatherModel" 271 yX7_ofRow : Cond) ∈ GT := gt_at 1161 (by decide +kernel) (by decide +kernel)
theorem kw_1163 : (.instanceMethod yX7_ofRow : Cond) ∈ GT := gt_at 1163 (by decide +kernel) (by decide +kernel)
theorem kw_1164 : (.code yX7_ofRow cX7_ofRow 3 (some .int) : Cond) ∈ GT := gt_at 1164 (by decide +kernel) (by decide +kernel)
theorem kw_1177 : (.methodLink "ButlerWeatherModel" 281 yX7_neverNow : Cond) ∈ GT := gt_at 1177 (by decide +kernel) (by decide +kernel)
theorem kw_1179 : (.instanceMethod yX7_neverNow : Cond) ∈ GT := gt_at 1179 (by decide +kernel) (by decide +kernel)
theorem kw_1180 : (.code yX7_neverNow cX7_neverNow 3 (some .int) : Cond) ∈ GT := gt_at 1180 (by decide +kernel) (by decide +kernel)
theorem kw_1181 : (.methodLink "ButlerWeatherModel" 277 yX7_isFelt : Cond) ∈ GT := gt_at 1181 (by decide +kernel) (by decide +kernel)
theorem kw_1183 : (.instanceMethod yX7_isFelt : Cond) ∈ GT := gt_at 1183 (by decide +kernel) (by decide +kernel)
theorem kw_1184 : (.code yX7_isFelt cX7_isFelt 3 (some .boolean) : Cond) ∈ GT := gt_at 1184 (by decide +kernel) (by decide +kernel)
theorem kw_1189 : (.methodLink "ButlerWeatherModel" 284 yX7_sortsBy : Cond) ∈ GT := gt_at 1189 (by decide +kernel) (by decide +kernel)
theorem kw_1191 : (.instanceMethod yX7_sortsBy : Cond) ∈ GT := gt_at 1191 (by decide +kernel) (by decide +kernel)
theorem kw_1192 : (.code yX7_sortsBy cX7_sortsBy 5 (some .int) : Cond) ∈ GT := gt_at 1192 (by decide +kernel) (by decide +kernel)
theorem kw_1193 : (.methodLink "ButlerWeatherModel" 287 yX7_longBy : Cond) ∈ GT := gt_at 1193 (by decide +kernel) (by decide +kernel)
theorem kw_1195 : (.instanceMethod yX7_longBy : Cond) ∈ GT := gt_at 1195 (by decide +kernel) (by decide +kernel)
theorem kw_1196 : (.code yX7_longBy cX7_longBy 6 (some .int) : Cond) ∈ GT := gt_at 1196 (by decide +kernel) (by decide +kernel)
theorem kw_1201 : (.methodLink "ButlerWeatherModel" 290 yX7_askOf : Cond) ∈ GT := gt_at 1201 (by decide +kernel) (by decide +kernel)
theorem kw_1203 : (.instanceMethod yX7_askOf : Cond) ∈ GT := gt_at 1203 (by decide +kernel) (by decide +kernel)
theorem kw_1204 : (.code yX7_askOf cX7_askOf 10 (some .int) : Cond) ∈ GT := gt_at 1204 (by decide +kernel) (by decide +kernel)
theorem kw_1209 : (.methodLink "ButlerWeatherModel" 297 yX7_chanceOf : Cond) ∈ GT := gt_at 1209 (by decide +kernel) (by decide +kernel)
theorem kw_1211 : (.instanceMethod yX7_chanceOf : Cond) ∈ GT := gt_at 1211 (by decide +kernel) (by decide +kernel)
theorem kw_1212 : (.code yX7_chanceOf cX7_chanceOf 10 (some .long) : Cond) ∈ GT := gt_at 1212 (by decide +kernel) (by decide +kernel)
theorem kw_1213 : (.methodLink "ButlerWeatherModel" 293 yX7_lowest : Cond) ∈ GT := gt_at 1213 (by decide +kernel) (by decide +kernel)
theorem kw_1214 : (.static yX7_lowest : Cond) ∈ GT := gt_at 1214 (by decide +kernel) (by decide +kernel)
theorem kw_1215 : (.code yX7_lowest cX7_lowest 11 (some .long) : Cond) ∈ GT := gt_at 1215 (by decide +kernel) (by decide +kernel)
theorem kw_1216 : (.methodLink "ButlerWeatherModel" 301 yX7_no : Cond) ∈ GT := gt_at 1216 (by decide +kernel) (by decide +kernel)
theorem kw_1217 : (.static yX7_no : Cond) ∈ GT := gt_at 1217 (by decide +kernel) (by decide +kernel)
theorem kw_1218 : (.code yX7_no cX7_no 1 (some .long) : Cond) ∈ GT := gt_at 1218 (by decide +kernel) (by decide +kernel)
theorem kw_1219 : (.constantLong "ButlerWeatherModel" 98 (-9223372036854775808) : Cond) ∈ GT := gt_at 1219 (by decide +kernel) (by decide +kernel)
theorem kw_1224 : (.methodLink "ButlerWeatherModel" 306 yX7_yearsOf : Cond) ∈ GT := gt_at 1224 (by decide +kernel) (by decide +kernel)
theorem kw_1226 : (.instanceMethod yX7_yearsOf : Cond) ∈ GT := gt_at 1226 (by decide +kernel) (by decide +kernel)
theorem kw_1227 : (.code yX7_yearsOf cX7_yearsOf 6 (some .int) : Cond) ∈ GT := gt_at 1227 (by decide +kernel) (by decide +kernel)
theorem kw_1228 : (.constant "ButlerWeatherModel" 305 1103515245 : Cond) ∈ GT := gt_at 1228 (by decide +kernel) (by decide +kernel)
theorem kw_1241 : (.methodLink "ButlerWeatherModel" 313 yX7_lacks : Cond) ∈ GT := gt_at 1241 (by decide +kernel) (by decide +kernel)
theorem kw_1243 : (.instanceMethod yX7_lacks : Cond) ∈ GT := gt_at 1243 (by decide +kernel) (by decide +kernel)
theorem kw_1244 : (.code yX7_lacks cX7_lacks 4 (some .int) : Cond) ∈ GT := gt_at 1244 (by decide +kernel) (by decide +kernel)
theorem kw_1245 : (.methodLink "ButlerWeatherModel" 316 yX7_keep : Cond) ∈ GT := gt_at 1245 (by decide +kernel) (by decide +kernel)
theorem kw_1247 : (.instanceMethod yX7_keep : Cond) ∈ GT := gt_at 1247 (by decide +kernel) (by decide +kernel)
theorem kw_1248 : (.code yX7_keep cX7_keep 4 none : Cond) ∈ GT := gt_at 1248 (by decide +kernel) (by decide +kernel)
theorem kw_1262 : (.instanceMethod yX7_count : Cond) ∈ GT := gt_at 1262 (by decide +kernel) (by decide +kernel)
theorem kw_1263 : (.selects "ButlerWeatherModel" yX7_count yX7_count : Cond) ∈ GT := gt_at 1263 (by decide +kernel) (by decide +kernel)
theorem kw_1264 : (.code yX7_count cX7_count 2 (some .int) : Cond) ∈ GT := gt_at 1264 (by decide +kernel) (by decide +kernel)
theorem kw_1265 : (.methodLink "ButlerWeatherModel" 322 yX7_tellOf : Cond) ∈ GT := gt_at 1265 (by decide +kernel) (by decide +kernel)
theorem kw_1267 : (.instanceMethod yX7_tellOf : Cond) ∈ GT := gt_at 1267 (by decide +kernel) (by decide +kernel)
theorem kw_1268 : (.code yX7_tellOf cX7_tellOf 2 (some .int) : Cond) ∈ GT := gt_at 1268 (by decide +kernel) (by decide +kernel)
theorem kw_1269 : (.methodLink "ButlerWeatherModel" 319 yX7_ones : Cond) ∈ GT := gt_at 1269 (by decide +kernel) (by decide +kernel)
theorem kw_1271 : (.instanceMethod yX7_ones : Cond) ∈ GT := gt_at 1271 (by decide +kernel) (by decide +kernel)
theorem kw_1272 : (.code yX7_ones cX7_ones 4 (some .int) : Cond) ∈ GT := gt_at 1272 (by decide +kernel) (by decide +kernel)
theorem kw_1277 : (.constantLong "ButlerWeatherModel" 327 17 : Cond) ∈ GT := gt_at 1277 (by decide +kernel) (by decide +kernel)
theorem kw_1278 : (.constantLong "ButlerWeatherModel" 325 31 : Cond) ∈ GT := gt_at 1278 (by decide +kernel) (by decide +kernel)
theorem kw_1279 : (.methodLink "ButlerWeatherModel" 329 yX7_count : Cond) ∈ GT := gt_at 1279 (by decide +kernel) (by decide +kernel)
theorem kw_1280 : (.methodLink "ButlerWeatherModel" 332 yX7_manDigest : Cond) ∈ GT := gt_at 1280 (by decide +kernel) (by decide +kernel)
theorem kw_1282 : (.instanceMethod yX7_manDigest : Cond) ∈ GT := gt_at 1282 (by decide +kernel) (by decide +kernel)
theorem kw_1283 : (.code yX7_manDigest cX7_manDigest 7 (some .long) : Cond) ∈ GT := gt_at 1283 (by decide +kernel) (by decide +kernel)
theorem kw_1284 : (.methodLink "ButlerWeatherModel" 336 yX7_callerDigest : Cond) ∈ GT := gt_at 1284 (by decide +kernel) (by decide +kernel)
theorem kw_1286 : (.instanceMethod yX7_callerDigest : Cond) ∈ GT := gt_at 1286 (by decide +kernel) (by decide +kernel)
theorem kw_1287 : (.code yX7_callerDigest cX7_callerDigest 7 (some .long) : Cond) ∈ GT := gt_at 1287 (by decide +kernel) (by decide +kernel)
theorem lay_0 : ∀ w ∈ u_ws RX0 TX0 3, w ∈ GT := by
  have h : u_ws RX0 TX0 3 = [128, 130, 132].filterMap (fun i => lw_tbl[i]?) := by decide +kernel
  intro w hw
  have hg : (u_ws RX0 TX0 3).all goodWord = true := by decide +kernel
  have h2 := List.all_eq_true.mp hg w hw
  rw [h] at hw
  obtain ⟨i, -, hi⟩ := List.mem_filterMap.mp hw
  exact gt_at i hi h2
theorem lay_1 : ∀ w ∈ u_ws RX1 TX1 3, w ∈ GT := by
  have h : u_ws RX1 TX1 3 = [145, 147, 149].filterMap (fun i => lw_tbl[i]?) := by decide +kernel
  intro w hw
  have hg : (u_ws RX1 TX1 3).all goodWord = true := by decide +kernel
  have h2 := List.all_eq_true.mp hg w hw
  rw [h] at hw
  obtain ⟨i, -, hi⟩ := List.mem_filterMap.mp hw
  exact gt_at i hi h2
theorem lay_2 : ∀ w ∈ u_ws RX2 TX2 14, w ∈ GT := by
  have h : u_ws RX2 TX2 14 = [206, 208, 210, 212, 214, 216, 218, 220, 222, 224, 226, 228, 230, 232].filterMap (fun i => lw_tbl[i]?) := by decide +kernel
  intro w hw
  have hg : (u_ws RX2 TX2 14).all goodWord = true := by decide +kernel
  have h2 := List.all_eq_true.mp hg w hw
  rw [h] at hw
  obtain ⟨i, -, hi⟩ := List.mem_filterMap.mp hw
  exact gt_at i hi h2
theorem lay_3 : ∀ w ∈ u_ws RX3 TX3 3, w ∈ GT := by
  have h : u_ws RX3 TX3 3 = [247, 249, 251].filterMap (fun i => lw_tbl[i]?) := by decide +kernel
  intro w hw
  have hg : (u_ws RX3 TX3 3).all goodWord = true := by decide +kernel
  have h2 := List.all_eq_true.mp hg w hw
  rw [h] at hw
  obtain ⟨i, -, hi⟩ := List.mem_filterMap.mp hw
  exact gt_at i hi h2
theorem lay_4 : ∀ w ∈ u_ws RX4 TX4 3, w ∈ GT := by
  have h : u_ws RX4 TX4 3 = [165, 167, 169].filterMap (fun i => lw_tbl[i]?) := by decide +kernel
  intro w hw
  have hg : (u_ws RX4 TX4 3).all goodWord = true := by decide +kernel
  have h2 := List.all_eq_true.mp hg w hw
  rw [h] at hw
  obtain ⟨i, -, hi⟩ := List.mem_filterMap.mp hw
  exact gt_at i hi h2
theorem lay_5 : ∀ w ∈ u_ws RX5 TX5 4, w ∈ GT := by
  have h : u_ws RX5 TX5 4 = [105, 107, 109, 111].filterMap (fun i => lw_tbl[i]?) := by decide +kernel
  intro w hw
  have hg : (u_ws RX5 TX5 4).all goodWord = true := by decide +kernel
  have h2 := List.all_eq_true.mp hg w hw
  rw [h] at hw
  obtain ⟨i, -, hi⟩ := List.mem_filterMap.mp hw
  exact gt_at i hi h2
theorem lay_6 : ∀ w ∈ u_ws RX6 TX6 9, w ∈ GT := by
  have h : u_ws RX6 TX6 9 = [263, 265, 267, 269, 271, 273, 275, 277, 279].filterMap (fun i => lw_tbl[i]?) := by decide +kernel
  intro w hw
  have hg : (u_ws RX6 TX6 9).all goodWord = true := by decide +kernel
  have h2 := List.all_eq_true.mp hg w hw
  rw [h] at hw
  obtain ⟨i, -, hi⟩ := List.mem_filterMap.mp hw
  exact gt_at i hi h2
theorem lay_7 : ∀ w ∈ u_ws RX7 TX7 38, w ∈ GT := by
  have h : u_ws RX7 TX7 38 = [820, 822, 824, 826, 828, 830, 832, 834, 836, 838, 840, 842, 844, 846, 848, 850, 852, 854, 856, 858, 860, 862, 864, 866, 868, 870, 872, 874, 876, 878, 880, 882, 884, 886, 888, 890, 892, 894].filterMap (fun i => lw_tbl[i]?) := by decide +kernel
  intro w hw
  have hg : (u_ws RX7 TX7 38).all goodWord = true := by decide +kernel
  have h2 := List.all_eq_true.mp hg w hw
  rw [h] at hw
  obtain ⟨i, -, hi⟩ := List.mem_filterMap.mp hw
  exact gt_at i hi h2
theorem fi_0_2 : zFi true 0 2 RX0 TX0 3 := ⟨rfl, lay_0, by decide, by decide, by decide, by decide, by decide⟩
theorem fi_1_2 : zFi true 1 2 RX1 TX1 3 := ⟨rfl, lay_1, by decide, by decide, by decide, by decide, by decide⟩
theorem fi_2_0 : zFi true 2 0 RX2 TX2 14 := ⟨rfl, lay_2, by decide, by decide, by decide, by decide, by decide⟩
theorem fi_2_6 : zFi true 2 6 RX2 TX2 14 := ⟨rfl, lay_2, by decide, by decide, by decide, by decide, by decide⟩
theorem fi_3_1 : zFi true 3 1 RX3 TX3 3 := ⟨rfl, lay_3, by decide, by decide, by decide, by decide, by decide⟩
theorem fi_4_0 : zFi true 4 0 RX4 TX4 3 := ⟨rfl, lay_4, by decide, by decide, by decide, by decide, by decide⟩
theorem fi_4_1 : zFi true 4 1 RX4 TX4 3 := ⟨rfl, lay_4, by decide, by decide, by decide, by decide, by decide⟩
theorem fi_5_1 : zFi true 5 1 RX5 TX5 4 := ⟨rfl, lay_5, by decide, by decide, by decide, by decide, by decide⟩
theorem fi_5_3 : zFi true 5 3 RX5 TX5 4 := ⟨rfl, lay_5, by decide, by decide, by decide, by decide, by decide⟩
theorem fi_6_7 : zFi true 6 7 RX6 TX6 9 := ⟨rfl, lay_6, by decide, by decide, by decide, by decide, by decide⟩
theorem fi_6_8 : zFi true 6 8 RX6 TX6 9 := ⟨rfl, lay_6, by decide, by decide, by decide, by decide, by decide⟩
theorem fi_7_11 : zFi false 7 11 RX7 TX7 38 := ⟨rfl, lay_7, by decide, by decide, by decide, by decide, by decide⟩
theorem fi_7_14 : zFi false 7 14 RX7 TX7 38 := ⟨rfl, lay_7, by decide, by decide, by decide, by decide, by decide⟩
theorem fi_7_17 : zFi false 7 17 RX7 TX7 38 := ⟨rfl, lay_7, by decide, by decide, by decide, by decide, by decide⟩
theorem fi_7_2 : zFi false 7 2 RX7 TX7 38 := ⟨rfl, lay_7, by decide, by decide, by decide, by decide, by decide⟩
theorem fi_7_21 : zFi false 7 21 RX7 TX7 38 := ⟨rfl, lay_7, by decide, by decide, by decide, by decide, by decide⟩
theorem fi_7_22 : zFi false 7 22 RX7 TX7 38 := ⟨rfl, lay_7, by decide, by decide, by decide, by decide, by decide⟩
theorem fi_7_28 : zFi false 7 28 RX7 TX7 38 := ⟨rfl, lay_7, by decide, by decide, by decide, by decide, by decide⟩
theorem fi_7_37 : zFi false 7 37 RX7 TX7 38 := ⟨rfl, lay_7, by decide, by decide, by decide, by decide, by decide⟩
theorem fi_7_7 : zFi false 7 7 RX7 TX7 38 := ⟨rfl, lay_7, by decide, by decide, by decide, by decide, by decide⟩
theorem cs_J6_bitCount_0f7a4 : zCS yJ6_bitCount_0f7a4 cJ6_bitCount_0f7a4 1 (some .int) 1 := ⟨kw_561, kw_81, kw_560, by decide +kernel, by decide +kernel, by decide +kernel⟩
theorem cs_X3_power : zCS yX3_power cX3_power 5 (some .long) 2 := ⟨kw_661, kw_78, kw_660, by decide +kernel, by decide +kernel, by decide +kernel⟩
theorem cs_X5_meaning : zCS yX5_meaning cX5_meaning 2 (some .int) 2 := ⟨kw_327, kw_73, kw_326, by decide +kernel, by decide +kernel, by decide +kernel⟩
theorem cs_X6_isDay : zCS yX6_isDay cX6_isDay 1 (some .boolean) 1 := ⟨kw_428, kw_72, kw_427, by decide +kernel, by decide +kernel, by decide +kernel⟩
theorem cs_X6_isForm : zCS yX6_isForm cX6_isForm 1 (some .boolean) 1 := ⟨kw_685, kw_72, kw_684, by decide +kernel, by decide +kernel, by decide +kernel⟩
theorem cs_X6_isSheet : zCS yX6_isSheet cX6_isSheet 1 (some .boolean) 1 := ⟨kw_447, kw_72, kw_446, by decide +kernel, by decide +kernel, by decide +kernel⟩
theorem cs_X6_isText : zCS yX6_isText cX6_isText 1 (some .boolean) 1 := ⟨kw_288, kw_72, kw_287, by decide +kernel, by decide +kernel, by decide +kernel⟩
theorem cs_X6_nextSeed : zCS yX6_nextSeed cX6_nextSeed 1 (some .int) 1 := ⟨kw_674, kw_72, kw_673, by decide +kernel, by decide +kernel, by decide +kernel⟩
theorem cs_X6_placeOfBit : zCS yX6_placeOfBit cX6_placeOfBit 4 (some .int) 2 := ⟨kw_587, kw_72, kw_586, by decide +kernel, by decide +kernel, by decide +kernel⟩
theorem cs_X6_upperBits : zCS yX6_upperBits cX6_upperBits 1 (some .int) 1 := ⟨kw_678, kw_72, kw_677, by decide +kernel, by decide +kernel, by decide +kernel⟩
theorem cs_X6_within : zCS yX6_within cX6_within 3 (some .boolean) 3 := ⟨kw_291, kw_72, kw_290, by decide +kernel, by decide +kernel, by decide +kernel⟩
theorem cs_X7_in : zCS yX7_in cX7_in 3 (some .boolean) 3 := ⟨kw_907, kw_79, kw_906, by decide +kernel, by decide +kernel, by decide +kernel⟩
theorem cs_X7_isDay : zCS yX7_isDay cX7_isDay 1 (some .boolean) 1 := ⟨kw_977, kw_79, kw_976, by decide +kernel, by decide +kernel, by decide +kernel⟩
theorem cs_X7_isIn : zCS yX7_isIn cX7_isIn 2 (some .boolean) 2 := ⟨kw_1040, kw_79, kw_1039, by decide +kernel, by decide +kernel, by decide +kernel⟩
theorem cs_X7_isSheet : zCS yX7_isSheet cX7_isSheet 1 (some .boolean) 1 := ⟨kw_988, kw_79, kw_987, by decide +kernel, by decide +kernel, by decide +kernel⟩
theorem cs_X7_isText : zCS yX7_isText cX7_isText 1 (some .boolean) 1 := ⟨kw_904, kw_79, kw_903, by decide +kernel, by decide +kernel, by decide +kernel⟩
theorem cs_X7_isTwo : zCS yX7_isTwo cX7_isTwo 1 (some .boolean) 1 := ⟨kw_1083, kw_79, kw_1082, by decide +kernel, by decide +kernel, by decide +kernel⟩
theorem cs_X7_lowest : zCS yX7_lowest cX7_lowest 11 (some .long) 3 := ⟨kw_1215, kw_79, kw_1214, by decide +kernel, by decide +kernel, by decide +kernel⟩
theorem cs_X7_no : zCS yX7_no cX7_no 1 (some .long) 1 := ⟨kw_1218, kw_79, kw_1217, by decide +kernel, by decide +kernel, by decide +kernel⟩
theorem cs_X7_sortOf : zCS yX7_sortOf cX7_sortOf 1 (some .int) 1 := ⟨kw_938, kw_79, kw_937, by decide +kernel, by decide +kernel, by decide +kernel⟩
theorem cs_X7_warms : zCS yX7_warms cX7_warms 1 (some .int) 1 := ⟨kw_1043, kw_79, kw_1042, by decide +kernel, by decide +kernel, by decide +kernel⟩
theorem cv_X0_append : zCV yX0_append cX0_append 3 (some .int) 2 := ⟨kw_432, kw_74, kw_430, kw_431, by decide +kernel, by decide +kernel, by decide +kernel⟩
theorem cv_X0_dropLast : zCV yX0_dropLast cX0_dropLast 1 (some .int) 0 := ⟨kw_440, kw_74, kw_438, kw_439, by decide +kernel, by decide +kernel, by decide +kernel⟩
theorem cv_X0_inviteAllBut : zCV yX0_inviteAllBut cX0_inviteAllBut 4 none 2 := ⟨kw_360, kw_74, kw_358, kw_359, by decide +kernel, by decide +kernel, by decide +kernel⟩
theorem cv_X1_append : zCV yX1_append cX1_append 3 (some .int) 2 := ⟨kw_595, kw_75, kw_593, kw_594, by decide +kernel, by decide +kernel, by decide +kernel⟩
theorem cv_X1_clear : zCV yX1_clear cX1_clear 2 (some .int) 0 := ⟨kw_603, kw_75, kw_601, kw_602, by decide +kernel, by decide +kernel, by decide +kernel⟩
theorem cv_X1_fits : zCV yX1_fits cX1_fits 3 (some .boolean) 1 := ⟨kw_611, kw_75, kw_609, kw_610, by decide +kernel, by decide +kernel, by decide +kernel⟩
theorem cv_X2_become : zCV yX2_become cX2_become 3 none 1 := ⟨kw_548, kw_77, kw_546, kw_547, by decide +kernel, by decide +kernel, by decide +kernel⟩
theorem cv_X2_everIn : zCV yX2_everIn cX2_everIn 1 (some .int) 0 := ⟨kw_558, kw_77, kw_556, kw_557, by decide +kernel, by decide +kernel, by decide +kernel⟩
theorem cv_X2_firstByDoor : zCV yX2_firstByDoor cX2_firstByDoor 3 (some .int) 0 := ⟨kw_512, kw_77, kw_510, kw_511, by decide +kernel, by decide +kernel, by decide +kernel⟩
theorem cv_X2_gather : zCV yX2_gather cX2_gather 2 none 0 := ⟨kw_377, kw_77, kw_376, kw_1, by decide +kernel, by decide +kernel, by decide +kernel⟩
theorem cv_X2_hasCaller : zCV yX2_hasCaller cX2_hasCaller 2 (some .boolean) 1 := ⟨kw_409, kw_77, kw_407, kw_408, by decide +kernel, by decide +kernel, by decide +kernel⟩
theorem cv_X2_hasMan : zCV yX2_hasMan cX2_hasMan 2 (some .boolean) 1 := ⟨kw_417, kw_77, kw_415, kw_416, by decide +kernel, by decide +kernel, by decide +kernel⟩
theorem cv_X2_hasNamed : zCV yX2_hasNamed cX2_hasNamed 3 (some .boolean) 1 := ⟨kw_584, kw_77, kw_582, kw_583, by decide +kernel, by decide +kernel, by decide +kernel⟩
theorem cv_X2_hatsOn : zCV yX2_hatsOn cX2_hatsOn 4 (some .int) 1 := ⟨kw_480, kw_77, kw_478, kw_479, by decide +kernel, by decide +kernel, by decide +kernel⟩
theorem cv_X2_invite : zCV yX2_invite cX2_invite 3 none 2 := ⟨kw_368, kw_77, kw_366, kw_367, by decide +kernel, by decide +kernel, by decide +kernel⟩
theorem cv_X2_isIn : zCV yX2_isIn cX2_isIn 3 (some .boolean) 2 := ⟨kw_467, kw_77, kw_465, kw_466, by decide +kernel, by decide +kernel, by decide +kernel⟩
theorem cv_X2_letIn : zCV yX2_letIn cX2_letIn 4 none 3 := ⟨kw_385, kw_77, kw_384, kw_3, by decide +kernel, by decide +kernel, by decide +kernel⟩
theorem cv_X2_live : zCV yX2_live cX2_live 3 none 0 := ⟨kw_373, kw_77, kw_371, kw_372, by decide +kernel, by decide +kernel, by decide +kernel⟩
theorem cv_X2_longestInvited : zCV yX2_longestInvited cX2_longestInvited 5 (some .int) 2 := ⟨kw_401, kw_77, kw_400, kw_6, by decide +kernel, by decide +kernel, by decide +kernel⟩
theorem cv_X2_manAt : zCV yX2_manAt cX2_manAt 3 (some .int) 1 := ⟨kw_393, kw_77, kw_391, kw_392, by decide +kernel, by decide +kernel, by decide +kernel⟩
theorem cv_X2_misnamed : zCV yX2_misnamed cX2_misnamed 3 (some .int) 0 := ⟨kw_532, kw_77, kw_530, kw_531, by decide +kernel, by decide +kernel, by decide +kernel⟩
theorem cv_X2_openDoor : zCV yX2_openDoor cX2_openDoor 7 (some .int) 2 := ⟨kw_389, kw_77, kw_388, kw_4, by decide +kernel, by decide +kernel, by decide +kernel⟩
theorem cv_X2_receive : zCV yX2_receive cX2_receive 5 (some .int) 2 := ⟨kw_381, kw_77, kw_380, kw_2, by decide +kernel, by decide +kernel, by decide +kernel⟩
theorem cv_X2_sendSunshines : zCV yX2_sendSunshines cX2_sendSunshines 5 (some .int) 2 := ⟨kw_397, kw_77, kw_396, kw_5, by decide +kernel, by decide +kernel, by decide +kernel⟩
theorem cv_X2_sendWeary : zCV yX2_sendWeary cX2_sendWeary 5 (some .int) 2 := ⟨kw_405, kw_77, kw_404, kw_7, by decide +kernel, by decide +kernel, by decide +kernel⟩
theorem cv_X2_sentBits : zCV yX2_sentBits cX2_sentBits 1 (some .int) 0 := ⟨kw_520, kw_77, kw_518, kw_519, by decide +kernel, by decide +kernel, by decide +kernel⟩
theorem cv_X2_standing : zCV yX2_standing cX2_standing 3 (some .int) 2 := ⟨kw_463, kw_77, kw_461, kw_462, by decide +kernel, by decide +kernel, by decide +kernel⟩
theorem cv_X2_stepOn : zCV yX2_stepOn cX2_stepOn 4 (some .int) 1 := ⟨kw_484, kw_77, kw_482, kw_483, by decide +kernel, by decide +kernel, by decide +kernel⟩
theorem cv_X2_takeCallers : zCV yX2_takeCallers cX2_takeCallers 4 none 2 := ⟨kw_344, kw_77, kw_342, kw_343, by decide +kernel, by decide +kernel, by decide +kernel⟩
theorem cv_X2_takeMen : zCV yX2_takeMen cX2_takeMen 4 none 2 := ⟨kw_356, kw_77, kw_354, kw_355, by decide +kernel, by decide +kernel, by decide +kernel⟩
theorem cv_X2_thoseWithADay : zCV yX2_thoseWithADay cX2_thoseWithADay 4 (some .int) 1 := ⟨kw_524, kw_77, kw_523, kw_11, by decide +kernel, by decide +kernel, by decide +kernel⟩
theorem cv_X2_total : zCV yX2_total cX2_total 3 (some .int) 0 := ⟨kw_540, kw_77, kw_538, kw_539, by decide +kernel, by decide +kernel, by decide +kernel⟩
theorem cv_X2_uninviteAll : zCV yX2_uninviteAll cX2_uninviteAll 2 none 0 := ⟨kw_364, kw_77, kw_362, kw_363, by decide +kernel, by decide +kernel, by decide +kernel⟩
theorem cv_X2_warmer : zCV yX2_warmer cX2_warmer 2 (some .int) 1 := ⟨kw_497, kw_77, kw_496, kw_10, by decide +kernel, by decide +kernel, by decide +kernel⟩
theorem cv_X2_warmthOn : zCV yX2_warmthOn cX2_warmthOn 4 (some .int) 1 := ⟨kw_493, kw_77, kw_491, kw_492, by decide +kernel, by decide +kernel, by decide +kernel⟩
theorem cv_X3_above : zCV yX3_above cX3_above 7 (some .long) 3 := ⟨kw_658, kw_78, kw_656, kw_657, by decide +kernel, by decide +kernel, by decide +kernel⟩
theorem cv_X3_countWays : zCV yX3_countWays cX3_countWays 6 none 2 := ⟨kw_651, kw_78, kw_649, kw_650, by decide +kernel, by decide +kernel, by decide +kernel⟩
theorem cv_X3_greatestAlike : zCV yX3_greatestAlike cX3_greatestAlike 7 (some .int) 2 := ⟨kw_639, kw_78, kw_637, kw_638, by decide +kernel, by decide +kernel, by decide +kernel⟩
theorem cv_X3_keepFitting : zCV yX3_keepFitting cX3_keepFitting 7 (some .int) 3 := ⟨kw_632, kw_78, kw_630, kw_631, by decide +kernel, by decide +kernel, by decide +kernel⟩
theorem cv_X4_beLost : zCV yX4_beLost cX4_beLost 2 (some .int) 0 := ⟨kw_697, kw_76, kw_695, kw_696, by decide +kernel, by decide +kernel, by decide +kernel⟩
theorem cv_X4_hasRun : zCV yX4_hasRun cX4_hasRun 3 (some .boolean) 2 := ⟨kw_723, kw_76, kw_721, kw_722, by decide +kernel, by decide +kernel, by decide +kernel⟩
theorem cv_X4_hindrance : zCV yX4_hindrance cX4_hindrance 3 (some .int) 2 := ⟨kw_705, kw_76, kw_703, kw_704, by decide +kernel, by decide +kernel, by decide +kernel⟩
theorem cv_X4_isLost : zCV yX4_isLost cX4_isLost 1 (some .boolean) 0 := ⟨kw_451, kw_76, kw_449, kw_450, by decide +kernel, by decide +kernel, by decide +kernel⟩
theorem cv_X4_renew : zCV yX4_renew cX4_renew 4 none 2 := ⟨kw_689, kw_76, kw_687, kw_688, by decide +kernel, by decide +kernel, by decide +kernel⟩
theorem cv_X4_store : zCV yX4_store cX4_store 3 none 2 := ⟨kw_711, kw_76, kw_709, kw_710, by decide +kernel, by decide +kernel, by decide +kernel⟩
theorem cv_X5_append : zCV yX5_append cX5_append 2 (some .int) 1 := ⟨kw_299, kw_73, kw_297, kw_298, by decide +kernel, by decide +kernel, by decide +kernel⟩
theorem cv_X5_clear : zCV yX5_clear cX5_clear 2 (some .int) 0 := ⟨kw_308, kw_73, kw_306, kw_307, by decide +kernel, by decide +kernel, by decide +kernel⟩
theorem cv_X5_dropLast : zCV yX5_dropLast cX5_dropLast 1 (some .int) 0 := ⟨kw_316, kw_73, kw_314, kw_315, by decide +kernel, by decide +kernel, by decide +kernel⟩
theorem cv_X5_firstFault : zCV yX5_firstFault cX5_firstFault 5 (some .int) 0 := ⟨kw_324, kw_73, kw_322, kw_323, by decide +kernel, by decide +kernel, by decide +kernel⟩
theorem cv_X5_hasRoom : zCV yX5_hasRoom cX5_hasRoom 1 (some .boolean) 0 := ⟨kw_295, kw_73, kw_293, kw_294, by decide +kernel, by decide +kernel, by decide +kernel⟩
theorem cv_X5_itemCount : zCV yX5_itemCount cX5_itemCount 1 (some .int) 0 := ⟨kw_339, kw_73, kw_337, kw_338, by decide +kernel, by decide +kernel, by decide +kernel⟩
theorem cv_X5_value : zCV yX5_value cX5_value 4 (some .int) 2 := ⟨kw_351, kw_73, kw_349, kw_350, by decide +kernel, by decide +kernel, by decide +kernel⟩
theorem cv_X6_addCard : zCV yX6_addCard cX6_addCard 3 (some .int) 2 := ⟨kw_425, kw_72, kw_424, kw_8, by decide +kernel, by decide +kernel, by decide +kernel⟩
theorem cv_X6_ask : zCV yX6_ask cX6_ask 8 (some .int) 1 := ⟨kw_628, kw_72, kw_626, kw_627, by decide +kernel, by decide +kernel, by decide +kernel⟩
theorem cv_X6_begin : zCV yX6_begin cX6_begin 8 (some .int) 2 := ⟨kw_554, kw_72, kw_552, kw_553, by decide +kernel, by decide +kernel, by decide +kernel⟩
theorem cv_X6_burn : zCV yX6_burn cX6_burn 3 (some .int) 1 := ⟨kw_572, kw_72, kw_570, kw_571, by decide +kernel, by decide +kernel, by decide +kernel⟩
theorem cv_X6_caller : zCV yX6_caller cX6_caller 4 (some .int) 2 := ⟨kw_331, kw_72, kw_329, kw_330, by decide +kernel, by decide +kernel, by decide +kernel⟩
theorem cv_X6_cardsToBurn : zCV yX6_cardsToBurn cX6_cardsToBurn 4 (some .int) 1 := ⟨kw_576, kw_72, kw_575, kw_12, by decide +kernel, by decide +kernel, by decide +kernel⟩
theorem cv_X6_chance : zCV yX6_chance cX6_chance 10 (some .long) 3 := ⟨kw_646, kw_72, kw_644, kw_645, by decide +kernel, by decide +kernel, by decide +kernel⟩
theorem cv_X6_coldest : zCV yX6_coldest cX6_coldest 6 (some .int) 0 := ⟨kw_504, kw_72, kw_502, kw_503, by decide +kernel, by decide +kernel, by decide +kernel⟩
theorem cv_X6_count : zCV yX6_count cX6_count 2 (some .int) 1 := ⟨kw_735, kw_72, kw_733, kw_734, by decide +kernel, by decide +kernel, by decide +kernel⟩
theorem cv_X6_digestCallers : zCV yX6_digestCallers cX6_digestCallers 8 (some .long) 1 := ⟨kw_753, kw_72, kw_752, kw_18, by decide +kernel, by decide +kernel, by decide +kernel⟩
theorem cv_X6_digestDays : zCV yX6_digestDays cX6_digestDays 7 (some .long) 1 := ⟨kw_764, kw_72, kw_763, kw_19, by decide +kernel, by decide +kernel, by decide +kernel⟩
theorem cv_X6_digestMen : zCV yX6_digestMen cX6_digestMen 8 (some .long) 1 := ⟨kw_747, kw_72, kw_746, kw_17, by decide +kernel, by decide +kernel, by decide +kernel⟩
theorem cv_X6_door : zCV yX6_door cX6_door 4 (some .int) 2 := ⟨kw_475, kw_72, kw_473, kw_474, by decide +kernel, by decide +kernel, by decide +kernel⟩
theorem cv_X6_fault : zCV yX6_fault cX6_fault 2 (some .int) 1 := ⟨kw_320, kw_72, kw_318, kw_319, by decide +kernel, by decide +kernel, by decide +kernel⟩
theorem cv_X6_first : zCV yX6_first cX6_first 4 (some .int) 1 := ⟨kw_508, kw_72, kw_506, kw_507, by decide +kernel, by decide +kernel, by decide +kernel⟩
theorem cv_X6_found : zCV yX6_found cX6_found 2 (some .int) 1 := ⟨kw_455, kw_72, kw_454, kw_9, by decide +kernel, by decide +kernel, by decide +kernel⟩
theorem cv_X6_inviteByLots : zCV yX6_inviteByLots cX6_inviteByLots 6 none 2 := ⟨kw_671, kw_72, kw_670, kw_16, by decide +kernel, by decide +kernel, by decide +kernel⟩
theorem cv_X6_leave : zCV yX6_leave cX6_leave 8 (some .int) 2 := ⟨kw_544, kw_72, kw_542, kw_543, by decide +kernel, by decide +kernel, by decide +kernel⟩
theorem cv_X6_man : zCV yX6_man cX6_man 4 (some .int) 2 := ⟨kw_413, kw_72, kw_411, kw_412, by decide +kernel, by decide +kernel, by decide +kernel⟩
theorem cv_X6_name : zCV yX6_name cX6_name 3 (some .int) 1 := ⟨kw_471, kw_72, kw_469, kw_470, by decide +kernel, by decide +kernel, by decide +kernel⟩
theorem cv_X6_never : zCV yX6_never cX6_never 3 (some .int) 0 := ⟨kw_607, kw_72, kw_605, kw_606, by decide +kernel, by decide +kernel, by decide +kernel⟩
theorem cv_X6_noFrostWithout : zCV yX6_noFrostWithout cX6_noFrostWithout 2 (some .boolean) 1 := ⟨kw_580, kw_72, kw_579, kw_13, by decide +kernel, by decide +kernel, by decide +kernel⟩
theorem cv_X6_patience : zCV yX6_patience cX6_patience 4 (some .int) 1 := ⟨kw_568, kw_72, kw_566, kw_567, by decide +kernel, by decide +kernel, by decide +kernel⟩
theorem cv_X6_sent : zCV yX6_sent cX6_sent 1 (some .int) 0 := ⟨kw_516, kw_72, kw_514, kw_515, by decide +kernel, by decide +kernel, by decide +kernel⟩
theorem cv_X6_sortsThatFit : zCV yX6_sortsThatFit cX6_sortsThatFit 4 (some .int) 1 := ⟨kw_620, kw_72, kw_619, kw_14, by decide +kernel, by decide +kernel, by decide +kernel⟩
theorem cv_X6_stands : zCV yX6_stands cX6_stands 4 (some .int) 2 := ⟨kw_459, kw_72, kw_457, kw_458, by decide +kernel, by decide +kernel, by decide +kernel⟩
theorem cv_X6_sum : zCV yX6_sum cX6_sum 1 (some .int) 0 := ⟨kw_536, kw_72, kw_534, kw_535, by decide +kernel, by decide +kernel, by decide +kernel⟩
theorem cv_X6_told : zCV yX6_told cX6_told 3 (some (.object "ButlerWeather$House")) 0 := ⟨kw_335, kw_72, kw_334, kw_0, by decide +kernel, by decide +kernel, by decide +kernel⟩
theorem cv_X6_waitsThatFit : zCV yX6_waitsThatFit cX6_waitsThatFit 4 (some .int) 1 := ⟨kw_624, kw_72, kw_623, kw_15, by decide +kernel, by decide +kernel, by decide +kernel⟩
theorem cv_X6_warmth : zCV yX6_warmth cX6_warmth 2 (some .int) 1 := ⟨kw_489, kw_72, kw_487, kw_488, by decide +kernel, by decide +kernel, by decide +kernel⟩
theorem cv_X6_was : zCV yX6_was cX6_was 4 (some .int) 2 := ⟨kw_616, kw_72, kw_614, kw_615, by decide +kernel, by decide +kernel, by decide +kernel⟩
theorem cv_X6_wrong : zCV yX6_wrong cX6_wrong 1 (some .int) 0 := ⟨kw_528, kw_72, kw_526, kw_527, by decide +kernel, by decide +kernel, by decide +kernel⟩
theorem cv_X6_years : zCV yX6_years cX6_years 4 (some .int) 3 := ⟨kw_666, kw_72, kw_664, kw_665, by decide +kernel, by decide +kernel, by decide +kernel⟩
theorem cv_X7_arrives : zCV yX7_arrives cX7_arrives 3 none 1 := ⟨kw_1021, kw_79, kw_1020, kw_36, by decide +kernel, by decide +kernel, by decide +kernel⟩
theorem cv_X7_asTold : zCV yX7_asTold cX7_asTold 2 none 0 := ⟨kw_1009, kw_79, kw_1008, kw_33, by decide +kernel, by decide +kernel, by decide +kernel⟩
theorem cv_X7_askOf : zCV yX7_askOf cX7_askOf 10 (some .int) 1 := ⟨kw_1204, kw_79, kw_1203, kw_62, by decide +kernel, by decide +kernel, by decide +kernel⟩
theorem cv_X7_beginOf : zCV yX7_beginOf cX7_beginOf 8 (some .int) 2 := ⟨kw_1136, kw_79, kw_1135, kw_52, by decide +kernel, by decide +kernel, by decide +kernel⟩
theorem cv_X7_burnBy : zCV yX7_burnBy cX7_burnBy 3 (some .int) 0 := ⟨kw_1156, kw_79, kw_1155, kw_55, by decide +kernel, by decide +kernel, by decide +kernel⟩
theorem cv_X7_byteAt : zCV yX7_byteAt cX7_byteAt 3 (some .int) 2 := ⟨kw_935, kw_79, kw_934, kw_23, by decide +kernel, by decide +kernel, by decide +kernel⟩
theorem cv_X7_callerDigest : zCV yX7_callerDigest cX7_callerDigest 7 (some .long) 2 := ⟨kw_1287, kw_79, kw_1286, kw_70, by decide +kernel, by decide +kernel, by decide +kernel⟩
theorem cv_X7_callerOf : zCV yX7_callerOf cX7_callerOf 3 (some .int) 2 := ⟨kw_958, kw_79, kw_957, kw_27, by decide +kernel, by decide +kernel, by decide +kernel⟩
theorem cv_X7_card : zCV yX7_card cX7_card 3 (some .int) 2 := ⟨kw_974, kw_79, kw_972, kw_973, by decide +kernel, by decide +kernel, by decide +kernel⟩
theorem cv_X7_chanceOf : zCV yX7_chanceOf cX7_chanceOf 10 (some .long) 3 := ⟨kw_1212, kw_79, kw_1211, kw_63, by decide +kernel, by decide +kernel, by decide +kernel⟩
theorem cv_X7_coldestOf : zCV yX7_coldestOf cX7_coldestOf 3 (some .int) 0 := ⟨kw_1076, kw_79, kw_1075, kw_44, by decide +kernel, by decide +kernel, by decide +kernel⟩
theorem cv_X7_count : zCV yX7_count cX7_count 2 (some .int) 1 := ⟨kw_1264, kw_79, kw_1262, kw_1263, by decide +kernel, by decide +kernel, by decide +kernel⟩
theorem cv_X7_doorOf : zCV yX7_doorOf cX7_doorOf 5 (some .int) 2 := ⟨kw_1059, kw_79, kw_1058, kw_42, by decide +kernel, by decide +kernel, by decide +kernel⟩
theorem cv_X7_faultOf : zCV yX7_faultOf cX7_faultOf 4 (some .int) 1 := ⟨kw_923, kw_79, kw_922, kw_20, by decide +kernel, by decide +kernel, by decide +kernel⟩
theorem cv_X7_firstOf : zCV yX7_firstOf cX7_firstOf 2 (some .int) 1 := ⟨kw_1087, kw_79, kw_1086, kw_45, by decide +kernel, by decide +kernel, by decide +kernel⟩
theorem cv_X7_goesBy : zCV yX7_goesBy cX7_goesBy 3 none 1 := ⟨kw_1017, kw_79, kw_1016, kw_35, by decide +kernel, by decide +kernel, by decide +kernel⟩
theorem cv_X7_hasCard : zCV yX7_hasCard cX7_hasCard 5 (some .boolean) 2 := ⟨kw_1037, kw_79, kw_1036, kw_40, by decide +kernel, by decide +kernel, by decide +kernel⟩
theorem cv_X7_insNow : zCV yX7_insNow cX7_insNow 3 (some .int) 0 := ⟨kw_1140, kw_79, kw_1139, kw_53, by decide +kernel, by decide +kernel, by decide +kernel⟩
theorem cv_X7_isBurnt : zCV yX7_isBurnt cX7_isBurnt 4 (some .boolean) 1 := ⟨kw_1160, kw_79, kw_1159, kw_56, by decide +kernel, by decide +kernel, by decide +kernel⟩
theorem cv_X7_isCaller : zCV yX7_isCaller cX7_isCaller 2 (some .boolean) 1 := ⟨kw_950, kw_79, kw_949, kw_25, by decide +kernel, by decide +kernel, by decide +kernel⟩
theorem cv_X7_isFelt : zCV yX7_isFelt cX7_isFelt 3 (some .boolean) 0 := ⟨kw_1184, kw_79, kw_1183, kw_59, by decide +kernel, by decide +kernel, by decide +kernel⟩
theorem cv_X7_isMan : zCV yX7_isMan cX7_isMan 2 (some .boolean) 1 := ⟨kw_966, kw_79, kw_965, kw_28, by decide +kernel, by decide +kernel, by decide +kernel⟩
theorem cv_X7_keep : zCV yX7_keep cX7_keep 4 none 3 := ⟨kw_1248, kw_79, kw_1247, kw_66, by decide +kernel, by decide +kernel, by decide +kernel⟩
theorem cv_X7_lacks : zCV yX7_lacks cX7_lacks 4 (some .int) 3 := ⟨kw_1244, kw_79, kw_1243, kw_65, by decide +kernel, by decide +kernel, by decide +kernel⟩
theorem cv_X7_leaveOf : zCV yX7_leaveOf cX7_leaveOf 8 (some .int) 2 := ⟨kw_1127, kw_79, kw_1126, kw_51, by decide +kernel, by decide +kernel, by decide +kernel⟩
theorem cv_X7_letsIn : zCV yX7_letsIn cX7_letsIn 4 none 3 := ⟨kw_1025, kw_79, kw_1024, kw_37, by decide +kernel, by decide +kernel, by decide +kernel⟩
theorem cv_X7_longBy : zCV yX7_longBy cX7_longBy 6 (some .int) 1 := ⟨kw_1196, kw_79, kw_1195, kw_61, by decide +kernel, by decide +kernel, by decide +kernel⟩
theorem cv_X7_manDigest : zCV yX7_manDigest cX7_manDigest 7 (some .long) 2 := ⟨kw_1283, kw_79, kw_1282, kw_69, by decide +kernel, by decide +kernel, by decide +kernel⟩
theorem cv_X7_manOf : zCV yX7_manOf cX7_manOf 3 (some .int) 2 := ⟨kw_970, kw_79, kw_969, kw_29, by decide +kernel, by decide +kernel, by decide +kernel⟩
theorem cv_X7_meets : zCV yX7_meets cX7_meets 2 (some .int) 1 := ⟨kw_992, kw_79, kw_991, kw_30, by decide +kernel, by decide +kernel, by decide +kernel⟩
theorem cv_X7_nameOf : zCV yX7_nameOf cX7_nameOf 2 (some .int) 1 := ⟨kw_1051, kw_79, kw_1050, kw_41, by decide +kernel, by decide +kernel, by decide +kernel⟩
theorem cv_X7_neverNow : zCV yX7_neverNow cX7_neverNow 3 (some .int) 0 := ⟨kw_1180, kw_79, kw_1179, kw_58, by decide +kernel, by decide +kernel, by decide +kernel⟩
theorem cv_X7_ofRow : zCV yX7_ofRow cX7_ofRow 3 (some .int) 2 := ⟨kw_1164, kw_79, kw_1163, kw_57, by decide +kernel, by decide +kernel, by decide +kernel⟩
theorem cv_X7_onDuty : zCV yX7_onDuty cX7_onDuty 3 (some .int) 1 := ⟨kw_1029, kw_79, kw_1028, kw_38, by decide +kernel, by decide +kernel, by decide +kernel⟩
theorem cv_X7_ones : zCV yX7_ones cX7_ones 4 (some .int) 1 := ⟨kw_1272, kw_79, kw_1271, kw_68, by decide +kernel, by decide +kernel, by decide +kernel⟩
theorem cv_X7_opens : zCV yX7_opens cX7_opens 5 none 2 := ⟨kw_1033, kw_79, kw_1032, kw_39, by decide +kernel, by decide +kernel, by decide +kernel⟩
theorem cv_X7_reads : zCV yX7_reads cX7_reads 2 none 0 := ⟨kw_954, kw_79, kw_953, kw_26, by decide +kernel, by decide +kernel, by decide +kernel⟩
theorem cv_X7_readsCaller : zCV yX7_readsCaller cX7_readsCaller 7 (some .int) 2 := ⟨kw_931, kw_79, kw_930, kw_22, by decide +kernel, by decide +kernel, by decide +kernel⟩
theorem cv_X7_readsMan : zCV yX7_readsMan cX7_readsMan 6 (some .int) 2 := ⟨kw_942, kw_79, kw_941, kw_24, by decide +kernel, by decide +kernel, by decide +kernel⟩
theorem cv_X7_readsParts : zCV yX7_readsParts cX7_readsParts 6 (some .int) 1 := ⟨kw_927, kw_79, kw_926, kw_21, by decide +kernel, by decide +kernel, by decide +kernel⟩
theorem cv_X7_runs : zCV yX7_runs cX7_runs 2 none 0 := ⟨kw_1013, kw_79, kw_1012, kw_34, by decide +kernel, by decide +kernel, by decide +kernel⟩
theorem cv_X7_runsTold : zCV yX7_runsTold cX7_runsTold 1 none 0 := ⟨kw_1005, kw_79, kw_1004, kw_32, by decide +kernel, by decide +kernel, by decide +kernel⟩
theorem cv_X7_sentNow : zCV yX7_sentNow cX7_sentNow 3 (some .int) 0 := ⟨kw_1099, kw_79, kw_1098, kw_47, by decide +kernel, by decide +kernel, by decide +kernel⟩
theorem cv_X7_sentOf : zCV yX7_sentOf cX7_sentOf 1 (some .int) 0 := ⟨kw_1095, kw_79, kw_1094, kw_46, by decide +kernel, by decide +kernel, by decide +kernel⟩
theorem cv_X7_sortsBy : zCV yX7_sortsBy cX7_sortsBy 5 (some .int) 1 := ⟨kw_1192, kw_79, kw_1191, kw_60, by decide +kernel, by decide +kernel, by decide +kernel⟩
theorem cv_X7_standsOf : zCV yX7_standsOf cX7_standsOf 3 (some .int) 2 := ⟨kw_1001, kw_79, kw_1000, kw_31, by decide +kernel, by decide +kernel, by decide +kernel⟩
theorem cv_X7_sumNow : zCV yX7_sumNow cX7_sumNow 3 (some .int) 0 := ⟨kw_1119, kw_79, kw_1118, kw_50, by decide +kernel, by decide +kernel, by decide +kernel⟩
theorem cv_X7_sumOf : zCV yX7_sumOf cX7_sumOf 1 (some .int) 0 := ⟨kw_1115, kw_79, kw_1114, kw_49, by decide +kernel, by decide +kernel, by decide +kernel⟩
theorem cv_X7_tellOf : zCV yX7_tellOf cX7_tellOf 2 (some .int) 1 := ⟨kw_1268, kw_79, kw_1267, kw_67, by decide +kernel, by decide +kernel, by decide +kernel⟩
theorem cv_X7_waitOf : zCV yX7_waitOf cX7_waitOf 5 (some .int) 1 := ⟨kw_1148, kw_79, kw_1147, kw_54, by decide +kernel, by decide +kernel, by decide +kernel⟩
theorem cv_X7_warmthOf : zCV yX7_warmthOf cX7_warmthOf 2 (some .int) 1 := ⟨kw_1067, kw_79, kw_1066, kw_43, by decide +kernel, by decide +kernel, by decide +kernel⟩
theorem cv_X7_wrongOf : zCV yX7_wrongOf cX7_wrongOf 3 (some .int) 0 := ⟨kw_1107, kw_79, kw_1106, kw_48, by decide +kernel, by decide +kernel, by decide +kernel⟩
theorem cv_X7_yearsOf : zCV yX7_yearsOf cX7_yearsOf 6 (some .int) 3 := ⟨kw_1227, kw_79, kw_1226, kw_64, by decide +kernel, by decide +kernel, by decide +kernel⟩
theorem fp_0_2 : zFp true 0 2 RX0 TX0 3 tyX0 .int := ⟨fi_0_2, tyX0_ok, nmX0, by decide, by decide +kernel⟩
theorem fp_1_2 : zFp true 1 2 RX1 TX1 3 tyX1 .int := ⟨fi_1_2, tyX1_ok, nmX1, by decide, by decide +kernel⟩
theorem fp_2_0 : zFp true 2 0 RX2 TX2 14 tyX2 .int := ⟨fi_2_0, tyX2_ok, nmX2, by decide, by decide +kernel⟩
theorem fp_2_6 : zFp true 2 6 RX2 TX2 14 tyX2 .int := ⟨fi_2_6, tyX2_ok, nmX2, by decide, by decide +kernel⟩
theorem fp_3_1 : zFp true 3 1 RX3 TX3 3 tyX3 .boolean := ⟨fi_3_1, tyX3_ok, nmX3, by decide, by decide +kernel⟩
theorem fp_4_0 : zFp true 4 0 RX4 TX4 3 tyX4 .int := ⟨fi_4_0, tyX4_ok, nmX4, by decide, by decide +kernel⟩
theorem fp_4_1 : zFp true 4 1 RX4 TX4 3 tyX4 .int := ⟨fi_4_1, tyX4_ok, nmX4, by decide, by decide +kernel⟩
theorem fp_5_3 : zFp true 5 3 RX5 TX5 4 tyX5 .int := ⟨fi_5_3, tyX5_ok, nmX5, by decide, by decide +kernel⟩
theorem fp_6_7 : zFp true 6 7 RX6 TX6 9 tyX6 .boolean := ⟨fi_6_7, tyX6_ok, nmX6, by decide, by decide +kernel⟩
theorem fp_6_8 : zFp true 6 8 RX6 TX6 9 tyX6 .int := ⟨fi_6_8, tyX6_ok, nmX6, by decide, by decide +kernel⟩
theorem fp_7_11 : zFp false 7 11 RX7 TX7 38 tyX7 .int := ⟨fi_7_11, tyX7_ok, nmX7, by decide, by decide +kernel⟩
theorem fp_7_14 : zFp false 7 14 RX7 TX7 38 tyX7 .int := ⟨fi_7_14, tyX7_ok, nmX7, by decide, by decide +kernel⟩
theorem fp_7_17 : zFp false 7 17 RX7 TX7 38 tyX7 .int := ⟨fi_7_17, tyX7_ok, nmX7, by decide, by decide +kernel⟩
theorem fp_7_2 : zFp false 7 2 RX7 TX7 38 tyX7 .int := ⟨fi_7_2, tyX7_ok, nmX7, by decide, by decide +kernel⟩
theorem fp_7_21 : zFp false 7 21 RX7 TX7 38 tyX7 .int := ⟨fi_7_21, tyX7_ok, nmX7, by decide, by decide +kernel⟩
theorem fp_7_22 : zFp false 7 22 RX7 TX7 38 tyX7 .int := ⟨fi_7_22, tyX7_ok, nmX7, by decide, by decide +kernel⟩
theorem fp_7_28 : zFp false 7 28 RX7 TX7 38 tyX7 .int := ⟨fi_7_28, tyX7_ok, nmX7, by decide, by decide +kernel⟩
theorem fp_7_37 : zFp false 7 37 RX7 TX7 38 tyX7 .int := ⟨fi_7_37, tyX7_ok, nmX7, by decide, by decide +kernel⟩
theorem fp_7_7 : zFp false 7 7 RX7 TX7 38 tyX7 .int := ⟨fi_7_7, tyX7_ok, nmX7, by decide, by decide +kernel⟩
theorem fr_0_0 : zFr true 0 0 RX0 TX0 3 := ⟨rfl, lay_0, by decide, by decide, by decide, by decide, by decide⟩
theorem fr_0_1 : zFr true 0 1 RX0 TX0 3 := ⟨rfl, lay_0, by decide, by decide, by decide, by decide, by decide⟩
theorem fr_1_0 : zFr true 1 0 RX1 TX1 3 := ⟨rfl, lay_1, by decide, by decide, by decide, by decide, by decide⟩
theorem fr_1_1 : zFr true 1 1 RX1 TX1 3 := ⟨rfl, lay_1, by decide, by decide, by decide, by decide, by decide⟩
theorem fr_2_1 : zFr true 2 1 RX2 TX2 14 := ⟨rfl, lay_2, by decide, by decide, by decide, by decide, by decide⟩
theorem fr_2_10 : zFr true 2 10 RX2 TX2 14 := ⟨rfl, lay_2, by decide, by decide, by decide, by decide, by decide⟩
theorem fr_2_11 : zFr true 2 11 RX2 TX2 14 := ⟨rfl, lay_2, by decide, by decide, by decide, by decide, by decide⟩
theorem fr_2_12 : zFr true 2 12 RX2 TX2 14 := ⟨rfl, lay_2, by decide, by decide, by decide, by decide, by decide⟩
theorem fr_2_13 : zFr true 2 13 RX2 TX2 14 := ⟨rfl, lay_2, by decide, by decide, by decide, by decide, by decide⟩
theorem fr_2_2 : zFr true 2 2 RX2 TX2 14 := ⟨rfl, lay_2, by decide, by decide, by decide, by decide, by decide⟩
theorem fr_2_3 : zFr true 2 3 RX2 TX2 14 := ⟨rfl, lay_2, by decide, by decide, by decide, by decide, by decide⟩
theorem fr_2_4 : zFr true 2 4 RX2 TX2 14 := ⟨rfl, lay_2, by decide, by decide, by decide, by decide, by decide⟩
theorem fr_2_5 : zFr true 2 5 RX2 TX2 14 := ⟨rfl, lay_2, by decide, by decide, by decide, by decide, by decide⟩
theorem fr_2_7 : zFr true 2 7 RX2 TX2 14 := ⟨rfl, lay_2, by decide, by decide, by decide, by decide, by decide⟩
theorem fr_2_8 : zFr true 2 8 RX2 TX2 14 := ⟨rfl, lay_2, by decide, by decide, by decide, by decide, by decide⟩
theorem fr_2_9 : zFr true 2 9 RX2 TX2 14 := ⟨rfl, lay_2, by decide, by decide, by decide, by decide, by decide⟩
theorem fr_3_0 : zFr true 3 0 RX3 TX3 3 := ⟨rfl, lay_3, by decide, by decide, by decide, by decide, by decide⟩
theorem fr_3_2 : zFr true 3 2 RX3 TX3 3 := ⟨rfl, lay_3, by decide, by decide, by decide, by decide, by decide⟩
theorem fr_4_2 : zFr true 4 2 RX4 TX4 3 := ⟨rfl, lay_4, by decide, by decide, by decide, by decide, by decide⟩
theorem fr_5_0 : zFr true 5 0 RX5 TX5 4 := ⟨rfl, lay_5, by decide, by decide, by decide, by decide, by decide⟩
theorem fr_5_2 : zFr true 5 2 RX5 TX5 4 := ⟨rfl, lay_5, by decide, by decide, by decide, by decide, by decide⟩
theorem fr_6_0 : zFr true 6 0 RX6 TX6 9 := ⟨rfl, lay_6, by decide, by decide, by decide, by decide, by decide⟩
theorem fr_6_1 : zFr true 6 1 RX6 TX6 9 := ⟨rfl, lay_6, by decide, by decide, by decide, by decide, by decide⟩
theorem fr_6_2 : zFr true 6 2 RX6 TX6 9 := ⟨rfl, lay_6, by decide, by decide, by decide, by decide, by decide⟩
theorem fr_6_3 : zFr true 6 3 RX6 TX6 9 := ⟨rfl, lay_6, by decide, by decide, by decide, by decide, by decide⟩
theorem fr_6_4 : zFr true 6 4 RX6 TX6 9 := ⟨rfl, lay_6, by decide, by decide, by decide, by decide, by decide⟩
theorem fr_6_5 : zFr true 6 5 RX6 TX6 9 := ⟨rfl, lay_6, by decide, by decide, by decide, by decide, by decide⟩
theorem fr_6_6 : zFr true 6 6 RX6 TX6 9 := ⟨rfl, lay_6, by decide, by decide, by decide, by decide, by decide⟩
theorem fr_7_0 : zFr false 7 0 RX7 TX7 38 := ⟨rfl, lay_7, by decide, by decide, by decide, by decide, by decide⟩
theorem fr_7_1 : zFr false 7 1 RX7 TX7 38 := ⟨rfl, lay_7, by decide, by decide, by decide, by decide, by decide⟩
theorem fr_7_10 : zFr false 7 10 RX7 TX7 38 := ⟨rfl, lay_7, by decide, by decide, by decide, by decide, by decide⟩
theorem fr_7_12 : zFr false 7 12 RX7 TX7 38 := ⟨rfl, lay_7, by decide, by decide, by decide, by decide, by decide⟩
theorem fr_7_13 : zFr false 7 13 RX7 TX7 38 := ⟨rfl, lay_7, by decide, by decide, by decide, by decide, by decide⟩
theorem fr_7_15 : zFr false 7 15 RX7 TX7 38 := ⟨rfl, lay_7, by decide, by decide, by decide, by decide, by decide⟩
theorem fr_7_16 : zFr false 7 16 RX7 TX7 38 := ⟨rfl, lay_7, by decide, by decide, by decide, by decide, by decide⟩
theorem fr_7_18 : zFr false 7 18 RX7 TX7 38 := ⟨rfl, lay_7, by decide, by decide, by decide, by decide, by decide⟩
theorem fr_7_19 : zFr false 7 19 RX7 TX7 38 := ⟨rfl, lay_7, by decide, by decide, by decide, by decide, by decide⟩
theorem fr_7_20 : zFr false 7 20 RX7 TX7 38 := ⟨rfl, lay_7, by decide, by decide, by decide, by decide, by decide⟩
theorem fr_7_23 : zFr false 7 23 RX7 TX7 38 := ⟨rfl, lay_7, by decide, by decide, by decide, by decide, by decide⟩
theorem fr_7_24 : zFr false 7 24 RX7 TX7 38 := ⟨rfl, lay_7, by decide, by decide, by decide, by decide, by decide⟩
theorem fr_7_25 : zFr false 7 25 RX7 TX7 38 := ⟨rfl, lay_7, by decide, by decide, by decide, by decide, by decide⟩
theorem fr_7_26 : zFr false 7 26 RX7 TX7 38 := ⟨rfl, lay_7, by decide, by decide, by decide, by decide, by decide⟩
theorem fr_7_27 : zFr false 7 27 RX7 TX7 38 := ⟨rfl, lay_7, by decide, by decide, by decide, by decide, by decide⟩
theorem fr_7_29 : zFr false 7 29 RX7 TX7 38 := ⟨rfl, lay_7, by decide, by decide, by decide, by decide, by decide⟩
theorem fr_7_3 : zFr false 7 3 RX7 TX7 38 := ⟨rfl, lay_7, by decide, by decide, by decide, by decide, by decide⟩
theorem fr_7_30 : zFr false 7 30 RX7 TX7 38 := ⟨rfl, lay_7, by decide, by decide, by decide, by decide, by decide⟩
theorem fr_7_31 : zFr false 7 31 RX7 TX7 38 := ⟨rfl, lay_7, by decide, by decide, by decide, by decide, by decide⟩
theorem fr_7_32 : zFr false 7 32 RX7 TX7 38 := ⟨rfl, lay_7, by decide, by decide, by decide, by decide, by decide⟩
theorem fr_7_33 : zFr false 7 33 RX7 TX7 38 := ⟨rfl, lay_7, by decide, by decide, by decide, by decide, by decide⟩
theorem fr_7_34 : zFr false 7 34 RX7 TX7 38 := ⟨rfl, lay_7, by decide, by decide, by decide, by decide, by decide⟩
theorem fr_7_35 : zFr false 7 35 RX7 TX7 38 := ⟨rfl, lay_7, by decide, by decide, by decide, by decide, by decide⟩
theorem fr_7_36 : zFr false 7 36 RX7 TX7 38 := ⟨rfl, lay_7, by decide, by decide, by decide, by decide, by decide⟩
theorem fr_7_4 : zFr false 7 4 RX7 TX7 38 := ⟨rfl, lay_7, by decide, by decide, by decide, by decide, by decide⟩
theorem fr_7_5 : zFr false 7 5 RX7 TX7 38 := ⟨rfl, lay_7, by decide, by decide, by decide, by decide, by decide⟩
theorem fr_7_6 : zFr false 7 6 RX7 TX7 38 := ⟨rfl, lay_7, by decide, by decide, by decide, by decide, by decide⟩
theorem fr_7_8 : zFr false 7 8 RX7 TX7 38 := ⟨rfl, lay_7, by decide, by decide, by decide, by decide, by decide⟩
theorem fr_7_9 : zFr false 7 9 RX7 TX7 38 := ⟨rfl, lay_7, by decide, by decide, by decide, by decide, by decide⟩
theorem ft_2_1 {h : Nat} (e : zty h = 2) : zty (h + 1) = 10 := z_chk (P := fun h => zty (h + 1) = 10) e (by decide +kernel) (by decide +kernel)
theorem ft_2_10 {h : Nat} (e : zty h = 2) : zty (h + 9) = 10 := z_chk (P := fun h => zty (h + 9) = 10) e (by decide +kernel) (by decide +kernel)
theorem ft_2_11 {h : Nat} (e : zty h = 2) : zty (h + 10) = 10 := z_chk (P := fun h => zty (h + 10) = 10) e (by decide +kernel) (by decide +kernel)
theorem ft_2_12 {h : Nat} (e : zty h = 2) : zty (h + 11) = 10 := z_chk (P := fun h => zty (h + 11) = 10) e (by decide +kernel) (by decide +kernel)
theorem ft_2_13 {h : Nat} (e : zty h = 2) : zty (h + 12) = 10 := z_chk (P := fun h => zty (h + 12) = 10) e (by decide +kernel) (by decide +kernel)
theorem ft_2_2 {h : Nat} (e : zty h = 2) : zty (h + 2) = 10 := z_chk (P := fun h => zty (h + 2) = 10) e (by decide +kernel) (by decide +kernel)
theorem ft_2_3 {h : Nat} (e : zty h = 2) : zty (h + 3) = 10 := z_chk (P := fun h => zty (h + 3) = 10) e (by decide +kernel) (by decide +kernel)
theorem ft_2_4 {h : Nat} (e : zty h = 2) : zty (h + 4) = 10 := z_chk (P := fun h => zty (h + 4) = 10) e (by decide +kernel) (by decide +kernel)
theorem ft_2_5 {h : Nat} (e : zty h = 2) : zty (h + 5) = 10 := z_chk (P := fun h => zty (h + 5) = 10) e (by decide +kernel) (by decide +kernel)
theorem ft_2_7 {h : Nat} (e : zty h = 2) : zty (h + 6) = 10 := z_chk (P := fun h => zty (h + 6) = 10) e (by decide +kernel) (by decide +kernel)
theorem ft_2_8 {h : Nat} (e : zty h = 2) : zty (h + 7) = 10 := z_chk (P := fun h => zty (h + 7) = 10) e (by decide +kernel) (by decide +kernel)
theorem ft_2_9 {h : Nat} (e : zty h = 2) : zty (h + 8) = 10 := z_chk (P := fun h => zty (h + 8) = 10) e (by decide +kernel) (by decide +kernel)
theorem ft_4_2 {h : Nat} (e : zty h = 4) : zty (h + 1) = 10 := z_chk (P := fun h => zty (h + 1) = 10) e (by decide +kernel) (by decide +kernel)
theorem ft_5_0 {h : Nat} (e : zty h = 5) : zty (zrf h 0) = 20 := z_chk (P := fun h => zty (zrf h 0) = 20) e (by decide +kernel) (by decide +kernel)
theorem ft_5_2 {h : Nat} (e : zty h = 5) : zty (h + 1) = 10 := z_chk (P := fun h => zty (h + 1) = 10) e (by decide +kernel) (by decide +kernel)
theorem ia_10 : zIa true 10 .int := ⟨by decide, rfl, by decide, by decide⟩
theorem ia_30 : zIa false 30 .int := ⟨by decide, rfl, by decide, by decide⟩
theorem ia_31 : zIa false 31 .boolean := ⟨by decide, rfl, by decide, by decide⟩
theorem nw_X2_52 : Cond.methodLinkNest "ButlerWeather$House" 52 yX6_within "ButlerWeather" ∈ zNw := by decide +kernel
theorem nw_X3_47 : Cond.methodLinkNest "ButlerWeather$Odds" 47 yX6_within "ButlerWeather" ∈ zNw := by decide +kernel
theorem nw_X4_26 : Cond.methodLinkNest "ButlerWeather$Sheet" 26 yX6_within "ButlerWeather" ∈ zNw := by decide +kernel
theorem nw_X5_37 : Cond.methodLinkNest "ButlerWeather$Text" 37 yX6_within "ButlerWeather" ∈ zNw := by decide +kernel
theorem ra_12 : zRa true 12 := ⟨by decide, rfl, by decide, by decide⟩
theorem ra_13 : zRa true 13 := ⟨by decide, rfl, by decide, by decide⟩
theorem ra_14 : zRa true 14 := ⟨by decide, rfl, by decide, by decide⟩
theorem rc_0 : vwCl[0]? = some (RX0, TX0, 3) ∧ 0 < 10 ∧ zok true 0 = true := ⟨rfl, by decide, by decide⟩
theorem rc_1 : vwCl[1]? = some (RX1, TX1, 3) ∧ 1 < 10 ∧ zok true 1 = true := ⟨rfl, by decide, by decide⟩
theorem rc_2 : vwCl[2]? = some (RX2, TX2, 14) ∧ 2 < 10 ∧ zok true 2 = true := ⟨rfl, by decide, by decide⟩
theorem rc_3 : vwCl[3]? = some (RX3, TX3, 3) ∧ 3 < 10 ∧ zok true 3 = true := ⟨rfl, by decide, by decide⟩
theorem rc_4 : vwCl[4]? = some (RX4, TX4, 3) ∧ 4 < 10 ∧ zok true 4 = true := ⟨rfl, by decide, by decide⟩
theorem rc_5 : vwCl[5]? = some (RX5, TX5, 4) ∧ 5 < 10 ∧ zok true 5 = true := ⟨rfl, by decide, by decide⟩
theorem rc_6 : vwCl[6]? = some (RX6, TX6, 9) ∧ 6 < 10 ∧ zok true 6 = true := ⟨rfl, by decide, by decide⟩
theorem rc_7 : vwCl[7]? = some (RX7, TX7, 38) ∧ 7 < 10 ∧ zok false 7 = true := ⟨rfl, by decide, by decide⟩
theorem rl_0_0 : zrf 0 0 = 1 := by decide +kernel
theorem rl_0_1 : zrf 0 1 = 6 := by decide +kernel
theorem rl_0_2 : zrf 0 2 = 9 := by decide +kernel
theorem rl_0_3 : zrf 0 3 = 12 := by decide +kernel
theorem rl_0_4 : zrf 0 4 = 21 := by decide +kernel
theorem rl_0_5 : zrf 0 5 = 34 := by decide +kernel
theorem rl_0_6 : zrf 0 6 = 47 := by decide +kernel
theorem rl_100_0 : zrf 100 0 = 101 := by decide +kernel
theorem rl_100_1 : zrf 100 1 = 102 := by decide +kernel
theorem rl_100_10 : zrf 100 10 = 111 := by decide +kernel
theorem rl_100_12 : zrf 100 12 = 113 := by decide +kernel
theorem rl_100_13 : zrf 100 13 = 114 := by decide +kernel
theorem rl_100_15 : zrf 100 15 = 116 := by decide +kernel
theorem rl_100_16 : zrf 100 16 = 117 := by decide +kernel
theorem rl_100_18 : zrf 100 18 = 119 := by decide +kernel
theorem rl_100_19 : zrf 100 19 = 120 := by decide +kernel
theorem rl_100_20 : zrf 100 20 = 121 := by decide +kernel
theorem rl_100_23 : zrf 100 23 = 124 := by decide +kernel
theorem rl_100_24 : zrf 100 24 = 125 := by decide +kernel
theorem rl_100_25 : zrf 100 25 = 126 := by decide +kernel
theorem rl_100_26 : zrf 100 26 = 127 := by decide +kernel
theorem rl_100_27 : zrf 100 27 = 128 := by decide +kernel
theorem rl_100_29 : zrf 100 29 = 130 := by decide +kernel
theorem rl_100_3 : zrf 100 3 = 104 := by decide +kernel
theorem rl_100_30 : zrf 100 30 = 131 := by decide +kernel
theorem rl_100_31 : zrf 100 31 = 132 := by decide +kernel
theorem rl_100_32 : zrf 100 32 = 133 := by decide +kernel
theorem rl_100_33 : zrf 100 33 = 134 := by decide +kernel
theorem rl_100_34 : zrf 100 34 = 135 := by decide +kernel
theorem rl_100_35 : zrf 100 35 = 136 := by decide +kernel
theorem rl_100_36 : zrf 100 36 = 137 := by decide +kernel
theorem rl_100_4 : zrf 100 4 = 105 := by decide +kernel
theorem rl_100_5 : zrf 100 5 = 106 := by decide +kernel
theorem rl_100_6 : zrf 100 6 = 107 := by decide +kernel
theorem rl_100_8 : zrf 100 8 = 109 := by decide +kernel
theorem rl_100_9 : zrf 100 9 = 110 := by decide +kernel
theorem rl_21_1 : zrf 21 1 = 22 := by decide +kernel
theorem rl_21_11 : zrf 21 11 = 31 := by decide +kernel
theorem rl_21_13 : zrf 21 13 = 33 := by decide +kernel
theorem rl_21_2 : zrf 21 2 = 23 := by decide +kernel
theorem rl_21_3 : zrf 21 3 = 24 := by decide +kernel
theorem rl_21_4 : zrf 21 4 = 25 := by decide +kernel
theorem rl_21_7 : zrf 21 7 = 27 := by decide +kernel
theorem rl_21_8 : zrf 21 8 = 28 := by decide +kernel
theorem rl_21_9 : zrf 21 9 = 29 := by decide +kernel
theorem rl_34_1 : zrf 34 1 = 35 := by decide +kernel
theorem rl_34_11 : zrf 34 11 = 44 := by decide +kernel
theorem rl_34_2 : zrf 34 2 = 36 := by decide +kernel
theorem rl_34_8 : zrf 34 8 = 41 := by decide +kernel
theorem rl_47_0 : zrf 47 0 = 48 := by decide +kernel
theorem rl_47_2 : zrf 47 2 = 49 := by decide +kernel
theorem rl_6_0 : zrf 6 0 = 7 := by decide +kernel
theorem rl_6_1 : zrf 6 1 = 8 := by decide +kernel
theorem rl_9_0 : zrf 9 0 = 10 := by decide +kernel
theorem rl_9_1 : zrf 9 1 = 11 := by decide +kernel
theorem rs_2_1 {h : Nat} (e : zty h = 2) : zrf h 1 = h + 1 := z_chk (P := fun h => zrf h 1 = h + 1) e (by decide +kernel) (by decide +kernel)
theorem rs_2_10 {h : Nat} (e : zty h = 2) : zrf h 10 = h + 9 := z_chk (P := fun h => zrf h 10 = h + 9) e (by decide +kernel) (by decide +kernel)
theorem rs_2_11 {h : Nat} (e : zty h = 2) : zrf h 11 = h + 10 := z_chk (P := fun h => zrf h 11 = h + 10) e (by decide +kernel) (by decide +kernel)
theorem rs_2_12 {h : Nat} (e : zty h = 2) : zrf h 12 = h + 11 := z_chk (P := fun h => zrf h 12 = h + 11) e (by decide +kernel) (by decide +kernel)
theorem rs_2_13 {h : Nat} (e : zty h = 2) : zrf h 13 = h + 12 := z_chk (P := fun h => zrf h 13 = h + 12) e (by decide +kernel) (by decide +kernel)
theorem rs_2_2 {h : Nat} (e : zty h = 2) : zrf h 2 = h + 2 := z_chk (P := fun h => zrf h 2 = h + 2) e (by decide +kernel) (by decide +kernel)
theorem rs_2_3 {h : Nat} (e : zty h = 2) : zrf h 3 = h + 3 := z_chk (P := fun h => zrf h 3 = h + 3) e (by decide +kernel) (by decide +kernel)
theorem rs_2_4 {h : Nat} (e : zty h = 2) : zrf h 4 = h + 4 := z_chk (P := fun h => zrf h 4 = h + 4) e (by decide +kernel) (by decide +kernel)
theorem rs_2_5 {h : Nat} (e : zty h = 2) : zrf h 5 = h + 5 := z_chk (P := fun h => zrf h 5 = h + 5) e (by decide +kernel) (by decide +kernel)
theorem rs_2_7 {h : Nat} (e : zty h = 2) : zrf h 7 = h + 6 := z_chk (P := fun h => zrf h 7 = h + 6) e (by decide +kernel) (by decide +kernel)
theorem rs_2_8 {h : Nat} (e : zty h = 2) : zrf h 8 = h + 7 := z_chk (P := fun h => zrf h 8 = h + 7) e (by decide +kernel) (by decide +kernel)
theorem rs_2_9 {h : Nat} (e : zty h = 2) : zrf h 9 = h + 8 := z_chk (P := fun h => zrf h 9 = h + 8) e (by decide +kernel) (by decide +kernel)
theorem rs_4_2 {h : Nat} (e : zty h = 4) : zrf h 2 = h + 1 := z_chk (P := fun h => zrf h 2 = h + 1) e (by decide +kernel) (by decide +kernel)
theorem rs_5_2 {h : Nat} (e : zty h = 5) : zrf h 2 = h + 1 := z_chk (P := fun h => zrf h 2 = h + 1) e (by decide +kernel) (by decide +kernel)
theorem rt_1 {r : Nat} (h : ∃ j, j < zln 1 ∧ r = zrf 1 j) : zty r = 5 := by
  obtain ⟨j, hj, rfl⟩ := h
  exact (show ∀ j, j < zln 1 → zty (zrf 1 j) = 5 by decide +kernel) j hj
theorem rt_12 {r : Nat} (h : ∃ j, j < zln 12 ∧ r = zrf 12 j) : zty r = 4 := by
  obtain ⟨j, hj, rfl⟩ := h
  exact (show ∀ j, j < zln 12 → zty (zrf 12 j) = 4 by decide +kernel) j hj
theorem rt_48 {r : Nat} (h : ∃ j, j < zln 48 ∧ r = zrf 48 j) : zty r = 10 := by
  obtain ⟨j, hj, rfl⟩ := h
  exact (show ∀ j, j < zln 48 → zty (zrf 48 j) = 10 by decide +kernel) j hj
theorem rt_49 {r : Nat} (h : ∃ j, j < zln 49 ∧ r = zrf 49 j) : zty r = 10 := by
  obtain ⟨j, hj, rfl⟩ := h
  exact (show ∀ j, j < zln 49 → zty (zrf 49 j) = 10 by decide +kernel) j hj
theorem tl_0 : zty 0 = 6 := by decide +kernel
theorem tl_1 : zty 1 = 13 := by decide +kernel
theorem tl_10 : zty 10 = 10 := by decide +kernel
theorem tl_100 : zty 100 = 7 := by decide +kernel
theorem tl_101 : zty 101 = 30 := by decide +kernel
theorem tl_102 : zty 102 = 30 := by decide +kernel
theorem tl_104 : zty 104 = 30 := by decide +kernel
theorem tl_105 : zty 105 = 30 := by decide +kernel
theorem tl_106 : zty 106 = 30 := by decide +kernel
theorem tl_107 : zty 107 = 30 := by decide +kernel
theorem tl_109 : zty 109 = 30 := by decide +kernel
theorem tl_11 : zty 11 = 10 := by decide +kernel
theorem tl_110 : zty 110 = 30 := by decide +kernel
theorem tl_111 : zty 111 = 30 := by decide +kernel
theorem tl_113 : zty 113 = 30 := by decide +kernel
theorem tl_114 : zty 114 = 30 := by decide +kernel
theorem tl_116 : zty 116 = 30 := by decide +kernel
theorem tl_117 : zty 117 = 30 := by decide +kernel
theorem tl_119 : zty 119 = 30 := by decide +kernel
theorem tl_12 : zty 12 = 14 := by decide +kernel
theorem tl_120 : zty 120 = 30 := by decide +kernel
theorem tl_121 : zty 121 = 30 := by decide +kernel
theorem tl_124 : zty 124 = 30 := by decide +kernel
theorem tl_125 : zty 125 = 30 := by decide +kernel
theorem tl_126 : zty 126 = 30 := by decide +kernel
theorem tl_127 : zty 127 = 30 := by decide +kernel
theorem tl_128 : zty 128 = 30 := by decide +kernel
theorem tl_130 : zty 130 = 30 := by decide +kernel
theorem tl_131 : zty 131 = 30 := by decide +kernel
theorem tl_132 : zty 132 = 30 := by decide +kernel
theorem tl_133 : zty 133 = 31 := by decide +kernel
theorem tl_134 : zty 134 = 30 := by decide +kernel
theorem tl_135 : zty 135 = 30 := by decide +kernel
theorem tl_136 : zty 136 = 30 := by decide +kernel
theorem tl_137 : zty 137 = 30 := by decide +kernel
theorem tl_21 : zty 21 = 2 := by decide +kernel
theorem tl_22 : zty 22 = 10 := by decide +kernel
theorem tl_23 : zty 23 = 10 := by decide +kernel
theorem tl_24 : zty 24 = 10 := by decide +kernel
theorem tl_25 : zty 25 = 10 := by decide +kernel
theorem tl_27 : zty 27 = 10 := by decide +kernel
theorem tl_28 : zty 28 = 10 := by decide +kernel
theorem tl_29 : zty 29 = 10 := by decide +kernel
theorem tl_31 : zty 31 = 10 := by decide +kernel
theorem tl_33 : zty 33 = 10 := by decide +kernel
theorem tl_34 : zty 34 = 2 := by decide +kernel
theorem tl_35 : zty 35 = 10 := by decide +kernel
theorem tl_36 : zty 36 = 10 := by decide +kernel
theorem tl_41 : zty 41 = 10 := by decide +kernel
theorem tl_44 : zty 44 = 10 := by decide +kernel
theorem tl_47 : zty 47 = 3 := by decide +kernel
theorem tl_48 : zty 48 = 12 := by decide +kernel
theorem tl_49 : zty 49 = 12 := by decide +kernel
theorem tl_6 : zty 6 = 0 := by decide +kernel
theorem tl_7 : zty 7 = 10 := by decide +kernel
theorem tl_72 : zty 72 = 20 := by decide +kernel
theorem tl_8 : zty 8 = 10 := by decide +kernel
theorem tl_9 : zty 9 = 1 := by decide +kernel
