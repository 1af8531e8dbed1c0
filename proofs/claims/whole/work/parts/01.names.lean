-- ===== PART A: goes FIRST, ahead of the names: the tables' words, and 'selects' of the private methods out of them =====
/-- a private method of a class that the tables say can be made, by its rows of tables_1 -/
def lw_okq (q : MethodName × Nat) : Prop := (q.1.cls ≠ "java/lang/invoke/MethodHandle" ∧ q.1.cls ≠ "java/lang/invoke/VarHandle") ∧ Cond.instantiable q.1.cls q.2 ∈ tables_1 ∧ Cond.privateMethod q.1 ∈ tables_1 ∧ Cond.instanceMethod q.1 ∈ tables_1
theorem lw_p0 : lw_okq (⟨"ButlerWeather", "told", "()LButlerWeather$House;"⟩, 9) := ⟨⟨by decide +kernel, by decide +kernel⟩, List.mem_of_getElem? (i := 13) (by decide +kernel), List.mem_of_getElem? (i := 262) (by decide +kernel), List.mem_of_getElem? (i := 263) (by decide +kernel)⟩
theorem lw_p1 : lw_okq (⟨"ButlerWeather$House", "gather", "()V"⟩, 14) := ⟨⟨by decide +kernel, by decide +kernel⟩, List.mem_of_getElem? (i := 102) (by decide +kernel), List.mem_of_getElem? (i := 304) (by decide +kernel), List.mem_of_getElem? (i := 305) (by decide +kernel)⟩
theorem lw_p2 : lw_okq (⟨"ButlerWeather$House", "receive", "(II)I"⟩, 14) := ⟨⟨by decide +kernel, by decide +kernel⟩, List.mem_of_getElem? (i := 102) (by decide +kernel), List.mem_of_getElem? (i := 308) (by decide +kernel), List.mem_of_getElem? (i := 309) (by decide +kernel)⟩
theorem lw_p3 : lw_okq (⟨"ButlerWeather$House", "letIn", "(III)V"⟩, 14) := ⟨⟨by decide +kernel, by decide +kernel⟩, List.mem_of_getElem? (i := 102) (by decide +kernel), List.mem_of_getElem? (i := 312) (by decide +kernel), List.mem_of_getElem? (i := 313) (by decide +kernel)⟩
theorem lw_p4 : lw_okq (⟨"ButlerWeather$House", "openDoor", "(II)I"⟩, 14) := ⟨⟨by decide +kernel, by decide +kernel⟩, List.mem_of_getElem? (i := 102) (by decide +kernel), List.mem_of_getElem? (i := 316) (by decide +kernel), List.mem_of_getElem? (i := 317) (by decide +kernel)⟩
theorem lw_p5 : lw_okq (⟨"ButlerWeather$House", "sendSunshines", "(II)I"⟩, 14) := ⟨⟨by decide +kernel, by decide +kernel⟩, List.mem_of_getElem? (i := 102) (by decide +kernel), List.mem_of_getElem? (i := 324) (by decide +kernel), List.mem_of_getElem? (i := 325) (by decide +kernel)⟩
theorem lw_p6 : lw_okq (⟨"ButlerWeather$House", "longestInvited", "(II)I"⟩, 14) := ⟨⟨by decide +kernel, by decide +kernel⟩, List.mem_of_getElem? (i := 102) (by decide +kernel), List.mem_of_getElem? (i := 328) (by decide +kernel), List.mem_of_getElem? (i := 329) (by decide +kernel)⟩
theorem lw_p7 : lw_okq (⟨"ButlerWeather$House", "sendWeary", "(II)I"⟩, 14) := ⟨⟨by decide +kernel, by decide +kernel⟩, List.mem_of_getElem? (i := 102) (by decide +kernel), List.mem_of_getElem? (i := 332) (by decide +kernel), List.mem_of_getElem? (i := 333) (by decide +kernel)⟩
theorem lw_p8 : lw_okq (⟨"ButlerWeather", "addCard", "(II)I"⟩, 9) := ⟨⟨by decide +kernel, by decide +kernel⟩, List.mem_of_getElem? (i := 13) (by decide +kernel), List.mem_of_getElem? (i := 352) (by decide +kernel), List.mem_of_getElem? (i := 353) (by decide +kernel)⟩
theorem lw_p9 : lw_okq (⟨"ButlerWeather", "found", "(I)I"⟩, 9) := ⟨⟨by decide +kernel, by decide +kernel⟩, List.mem_of_getElem? (i := 13) (by decide +kernel), List.mem_of_getElem? (i := 382) (by decide +kernel), List.mem_of_getElem? (i := 383) (by decide +kernel)⟩
theorem lw_p10 : lw_okq (⟨"ButlerWeather$House", "warmer", "(I)I"⟩, 14) := ⟨⟨by decide +kernel, by decide +kernel⟩, List.mem_of_getElem? (i := 102) (by decide +kernel), List.mem_of_getElem? (i := 424) (by decide +kernel), List.mem_of_getElem? (i := 425) (by decide +kernel)⟩
theorem lw_p11 : lw_okq (⟨"ButlerWeather$House", "thoseWithADay", "([I)I"⟩, 14) := ⟨⟨by decide +kernel, by decide +kernel⟩, List.mem_of_getElem? (i := 102) (by decide +kernel), List.mem_of_getElem? (i := 451) (by decide +kernel), List.mem_of_getElem? (i := 452) (by decide +kernel)⟩
theorem lw_p12 : lw_okq (⟨"ButlerWeather", "cardsToBurn", "(LButlerWeather$House;)I"⟩, 9) := ⟨⟨by decide +kernel, by decide +kernel⟩, List.mem_of_getElem? (i := 13) (by decide +kernel), List.mem_of_getElem? (i := 503) (by decide +kernel), List.mem_of_getElem? (i := 504) (by decide +kernel)⟩
theorem lw_p13 : lw_okq (⟨"ButlerWeather", "noFrostWithout", "(I)Z"⟩, 9) := ⟨⟨by decide +kernel, by decide +kernel⟩, List.mem_of_getElem? (i := 13) (by decide +kernel), List.mem_of_getElem? (i := 507) (by decide +kernel), List.mem_of_getElem? (i := 508) (by decide +kernel)⟩
theorem lw_p14 : lw_okq (⟨"ButlerWeather", "sortsThatFit", "(I)I"⟩, 9) := ⟨⟨by decide +kernel, by decide +kernel⟩, List.mem_of_getElem? (i := 13) (by decide +kernel), List.mem_of_getElem? (i := 547) (by decide +kernel), List.mem_of_getElem? (i := 548) (by decide +kernel)⟩
theorem lw_p15 : lw_okq (⟨"ButlerWeather", "waitsThatFit", "(I)I"⟩, 9) := ⟨⟨by decide +kernel, by decide +kernel⟩, List.mem_of_getElem? (i := 13) (by decide +kernel), List.mem_of_getElem? (i := 551) (by decide +kernel), List.mem_of_getElem? (i := 552) (by decide +kernel)⟩
def lw_privs_1 : List (MethodName × Nat) := [(⟨"ButlerWeather", "told", "()LButlerWeather$House;"⟩, 9), (⟨"ButlerWeather$House", "gather", "()V"⟩, 14), (⟨"ButlerWeather$House", "receive", "(II)I"⟩, 14), (⟨"ButlerWeather$House", "letIn", "(III)V"⟩, 14), (⟨"ButlerWeather$House", "openDoor", "(II)I"⟩, 14), (⟨"ButlerWeather$House", "sendSunshines", "(II)I"⟩, 14), (⟨"ButlerWeather$House", "longestInvited", "(II)I"⟩, 14), (⟨"ButlerWeather$House", "sendWeary", "(II)I"⟩, 14), (⟨"ButlerWeather", "addCard", "(II)I"⟩, 9), (⟨"ButlerWeather", "found", "(I)I"⟩, 9), (⟨"ButlerWeather$House", "warmer", "(I)I"⟩, 14), (⟨"ButlerWeather$House", "thoseWithADay", "([I)I"⟩, 14), (⟨"ButlerWeather", "cardsToBurn", "(LButlerWeather$House;)I"⟩, 9), (⟨"ButlerWeather", "noFrostWithout", "(I)Z"⟩, 9), (⟨"ButlerWeather", "sortsThatFit", "(I)I"⟩, 9), (⟨"ButlerWeather", "waitsThatFit", "(I)I"⟩, 9)]
theorem lw_r1 : ∀ q ∈ lw_privs_1, lw_okq q := List.forall_mem_cons.mpr ⟨lw_p0, List.forall_mem_cons.mpr ⟨lw_p1, List.forall_mem_cons.mpr ⟨lw_p2, List.forall_mem_cons.mpr ⟨lw_p3, List.forall_mem_cons.mpr ⟨lw_p4, List.forall_mem_cons.mpr ⟨lw_p5, List.forall_mem_cons.mpr ⟨lw_p6, List.forall_mem_cons.mpr ⟨lw_p7, List.forall_mem_cons.mpr ⟨lw_p8, List.forall_mem_cons.mpr ⟨lw_p9, List.forall_mem_cons.mpr ⟨lw_p10, List.forall_mem_cons.mpr ⟨lw_p11, List.forall_mem_cons.mpr ⟨lw_p12, List.forall_mem_cons.mpr ⟨lw_p13, List.forall_mem_cons.mpr ⟨lw_p14, List.forall_mem_cons.mpr ⟨lw_p15, fun _ h => absurd h List.not_mem_nil⟩⟩⟩⟩⟩⟩⟩⟩⟩⟩⟩⟩⟩⟩⟩⟩
theorem lw_p16 : lw_okq (⟨"ButlerWeather", "inviteByLots", "(II)V"⟩, 9) := ⟨⟨by decide +kernel, by decide +kernel⟩, List.mem_of_getElem? (i := 13) (by decide +kernel), List.mem_of_getElem? (i := 598) (by decide +kernel), List.mem_of_getElem? (i := 599) (by decide +kernel)⟩
theorem lw_p17 : lw_okq (⟨"ButlerWeather", "digestMen", "(J)J"⟩, 9) := ⟨⟨by decide +kernel, by decide +kernel⟩, List.mem_of_getElem? (i := 13) (by decide +kernel), List.mem_of_getElem? (i := 674) (by decide +kernel), List.mem_of_getElem? (i := 675) (by decide +kernel)⟩
theorem lw_p18 : lw_okq (⟨"ButlerWeather", "digestCallers", "(J)J"⟩, 9) := ⟨⟨by decide +kernel, by decide +kernel⟩, List.mem_of_getElem? (i := 13) (by decide +kernel), List.mem_of_getElem? (i := 680) (by decide +kernel), List.mem_of_getElem? (i := 681) (by decide +kernel)⟩
theorem lw_p19 : lw_okq (⟨"ButlerWeather", "digestDays", "(J)J"⟩, 9) := ⟨⟨by decide +kernel, by decide +kernel⟩, List.mem_of_getElem? (i := 13) (by decide +kernel), List.mem_of_getElem? (i := 691) (by decide +kernel), List.mem_of_getElem? (i := 692) (by decide +kernel)⟩
theorem lw_p20 : lw_okq (⟨"ButlerWeatherModel", "faultOf", "(I)I"⟩, 38) := ⟨⟨by decide +kernel, by decide +kernel⟩, List.mem_of_getElem? (i := 706) (by decide +kernel), List.mem_of_getElem? (i := 850) (by decide +kernel), List.mem_of_getElem? (i := 851) (by decide +kernel)⟩
theorem lw_p21 : lw_okq (⟨"ButlerWeatherModel", "readsParts", "(I)I"⟩, 38) := ⟨⟨by decide +kernel, by decide +kernel⟩, List.mem_of_getElem? (i := 706) (by decide +kernel), List.mem_of_getElem? (i := 854) (by decide +kernel), List.mem_of_getElem? (i := 855) (by decide +kernel)⟩
theorem lw_p22 : lw_okq (⟨"ButlerWeatherModel", "readsCaller", "(II)I"⟩, 38) := ⟨⟨by decide +kernel, by decide +kernel⟩, List.mem_of_getElem? (i := 706) (by decide +kernel), List.mem_of_getElem? (i := 858) (by decide +kernel), List.mem_of_getElem? (i := 859) (by decide +kernel)⟩
theorem lw_p23 : lw_okq (⟨"ButlerWeatherModel", "byteAt", "(II)I"⟩, 38) := ⟨⟨by decide +kernel, by decide +kernel⟩, List.mem_of_getElem? (i := 706) (by decide +kernel), List.mem_of_getElem? (i := 862) (by decide +kernel), List.mem_of_getElem? (i := 863) (by decide +kernel)⟩
theorem lw_p24 : lw_okq (⟨"ButlerWeatherModel", "readsMan", "(II)I"⟩, 38) := ⟨⟨by decide +kernel, by decide +kernel⟩, List.mem_of_getElem? (i := 706) (by decide +kernel), List.mem_of_getElem? (i := 869) (by decide +kernel), List.mem_of_getElem? (i := 870) (by decide +kernel)⟩
theorem lw_p25 : lw_okq (⟨"ButlerWeatherModel", "isCaller", "(I)Z"⟩, 38) := ⟨⟨by decide +kernel, by decide +kernel⟩, List.mem_of_getElem? (i := 706) (by decide +kernel), List.mem_of_getElem? (i := 877) (by decide +kernel), List.mem_of_getElem? (i := 878) (by decide +kernel)⟩
theorem lw_p26 : lw_okq (⟨"ButlerWeatherModel", "reads", "()V"⟩, 38) := ⟨⟨by decide +kernel, by decide +kernel⟩, List.mem_of_getElem? (i := 706) (by decide +kernel), List.mem_of_getElem? (i := 881) (by decide +kernel), List.mem_of_getElem? (i := 882) (by decide +kernel)⟩
theorem lw_p27 : lw_okq (⟨"ButlerWeatherModel", "callerOf", "(II)I"⟩, 38) := ⟨⟨by decide +kernel, by decide +kernel⟩, List.mem_of_getElem? (i := 706) (by decide +kernel), List.mem_of_getElem? (i := 885) (by decide +kernel), List.mem_of_getElem? (i := 886) (by decide +kernel)⟩
theorem lw_p28 : lw_okq (⟨"ButlerWeatherModel", "isMan", "(I)Z"⟩, 38) := ⟨⟨by decide +kernel, by decide +kernel⟩, List.mem_of_getElem? (i := 706) (by decide +kernel), List.mem_of_getElem? (i := 893) (by decide +kernel), List.mem_of_getElem? (i := 894) (by decide +kernel)⟩
theorem lw_p29 : lw_okq (⟨"ButlerWeatherModel", "manOf", "(II)I"⟩, 38) := ⟨⟨by decide +kernel, by decide +kernel⟩, List.mem_of_getElem? (i := 706) (by decide +kernel), List.mem_of_getElem? (i := 897) (by decide +kernel), List.mem_of_getElem? (i := 898) (by decide +kernel)⟩
theorem lw_p30 : lw_okq (⟨"ButlerWeatherModel", "meets", "(I)I"⟩, 38) := ⟨⟨by decide +kernel, by decide +kernel⟩, List.mem_of_getElem? (i := 706) (by decide +kernel), List.mem_of_getElem? (i := 919) (by decide +kernel), List.mem_of_getElem? (i := 920) (by decide +kernel)⟩
theorem lw_p31 : lw_okq (⟨"ButlerWeatherModel", "standsOf", "(II)I"⟩, 38) := ⟨⟨by decide +kernel, by decide +kernel⟩, List.mem_of_getElem? (i := 706) (by decide +kernel), List.mem_of_getElem? (i := 928) (by decide +kernel), List.mem_of_getElem? (i := 929) (by decide +kernel)⟩
def lw_privs_2 : List (MethodName × Nat) := [(⟨"ButlerWeather", "inviteByLots", "(II)V"⟩, 9), (⟨"ButlerWeather", "digestMen", "(J)J"⟩, 9), (⟨"ButlerWeather", "digestCallers", "(J)J"⟩, 9), (⟨"ButlerWeather", "digestDays", "(J)J"⟩, 9), (⟨"ButlerWeatherModel", "faultOf", "(I)I"⟩, 38), (⟨"ButlerWeatherModel", "readsParts", "(I)I"⟩, 38), (⟨"ButlerWeatherModel", "readsCaller", "(II)I"⟩, 38), (⟨"ButlerWeatherModel", "byteAt", "(II)I"⟩, 38), (⟨"ButlerWeatherModel", "readsMan", "(II)I"⟩, 38), (⟨"ButlerWeatherModel", "isCaller", "(I)Z"⟩, 38), (⟨"ButlerWeatherModel", "reads", "()V"⟩, 38), (⟨"ButlerWeatherModel", "callerOf", "(II)I"⟩, 38), (⟨"ButlerWeatherModel", "isMan", "(I)Z"⟩, 38), (⟨"ButlerWeatherModel", "manOf", "(II)I"⟩, 38), (⟨"ButlerWeatherModel", "meets", "(I)I"⟩, 38), (⟨"ButlerWeatherModel", "standsOf", "(II)I"⟩, 38)]
theorem lw_r2 : ∀ q ∈ lw_privs_2, lw_okq q := List.forall_mem_cons.mpr ⟨lw_p16, List.forall_mem_cons.mpr ⟨lw_p17, List.forall_mem_cons.mpr ⟨lw_p18, List.forall_mem_cons.mpr ⟨lw_p19, List.forall_mem_cons.mpr ⟨lw_p20, List.forall_mem_cons.mpr ⟨lw_p21, List.forall_mem_cons.mpr ⟨lw_p22, List.forall_mem_cons.mpr ⟨lw_p23, List.forall_mem_cons.mpr ⟨lw_p24, List.forall_mem_cons.mpr ⟨lw_p25, List.forall_mem_cons.mpr ⟨lw_p26, List.forall_mem_cons.mpr ⟨lw_p27, List.forall_mem_cons.mpr ⟨lw_p28, List.forall_mem_cons.mpr ⟨lw_p29, List.forall_mem_cons.mpr ⟨lw_p30, List.forall_mem_cons.mpr ⟨lw_p31, fun _ h => absurd h List.not_mem_nil⟩⟩⟩⟩⟩⟩⟩⟩⟩⟩⟩⟩⟩⟩⟩⟩
theorem lw_p32 : lw_okq (⟨"ButlerWeatherModel", "runsTold", "()V"⟩, 38) := ⟨⟨by decide +kernel, by decide +kernel⟩, List.mem_of_getElem? (i := 706) (by decide +kernel), List.mem_of_getElem? (i := 932) (by decide +kernel), List.mem_of_getElem? (i := 933) (by decide +kernel)⟩
theorem lw_p33 : lw_okq (⟨"ButlerWeatherModel", "asTold", "()V"⟩, 38) := ⟨⟨by decide +kernel, by decide +kernel⟩, List.mem_of_getElem? (i := 706) (by decide +kernel), List.mem_of_getElem? (i := 936) (by decide +kernel), List.mem_of_getElem? (i := 937) (by decide +kernel)⟩
theorem lw_p34 : lw_okq (⟨"ButlerWeatherModel", "runs", "()V"⟩, 38) := ⟨⟨by decide +kernel, by decide +kernel⟩, List.mem_of_getElem? (i := 706) (by decide +kernel), List.mem_of_getElem? (i := 940) (by decide +kernel), List.mem_of_getElem? (i := 941) (by decide +kernel)⟩
theorem lw_p35 : lw_okq (⟨"ButlerWeatherModel", "goesBy", "(I)V"⟩, 38) := ⟨⟨by decide +kernel, by decide +kernel⟩, List.mem_of_getElem? (i := 706) (by decide +kernel), List.mem_of_getElem? (i := 944) (by decide +kernel), List.mem_of_getElem? (i := 945) (by decide +kernel)⟩
theorem lw_p36 : lw_okq (⟨"ButlerWeatherModel", "arrives", "(I)V"⟩, 38) := ⟨⟨by decide +kernel, by decide +kernel⟩, List.mem_of_getElem? (i := 706) (by decide +kernel), List.mem_of_getElem? (i := 948) (by decide +kernel), List.mem_of_getElem? (i := 949) (by decide +kernel)⟩
theorem lw_p37 : lw_okq (⟨"ButlerWeatherModel", "letsIn", "(III)V"⟩, 38) := ⟨⟨by decide +kernel, by decide +kernel⟩, List.mem_of_getElem? (i := 706) (by decide +kernel), List.mem_of_getElem? (i := 952) (by decide +kernel), List.mem_of_getElem? (i := 953) (by decide +kernel)⟩
theorem lw_p38 : lw_okq (⟨"ButlerWeatherModel", "onDuty", "(I)I"⟩, 38) := ⟨⟨by decide +kernel, by decide +kernel⟩, List.mem_of_getElem? (i := 706) (by decide +kernel), List.mem_of_getElem? (i := 956) (by decide +kernel), List.mem_of_getElem? (i := 957) (by decide +kernel)⟩
theorem lw_p39 : lw_okq (⟨"ButlerWeatherModel", "opens", "(II)V"⟩, 38) := ⟨⟨by decide +kernel, by decide +kernel⟩, List.mem_of_getElem? (i := 706) (by decide +kernel), List.mem_of_getElem? (i := 960) (by decide +kernel), List.mem_of_getElem? (i := 961) (by decide +kernel)⟩
theorem lw_p40 : lw_okq (⟨"ButlerWeatherModel", "hasCard", "(II)Z"⟩, 38) := ⟨⟨by decide +kernel, by decide +kernel⟩, List.mem_of_getElem? (i := 706) (by decide +kernel), List.mem_of_getElem? (i := 964) (by decide +kernel), List.mem_of_getElem? (i := 965) (by decide +kernel)⟩
theorem lw_p41 : lw_okq (⟨"ButlerWeatherModel", "nameOf", "(I)I"⟩, 38) := ⟨⟨by decide +kernel, by decide +kernel⟩, List.mem_of_getElem? (i := 706) (by decide +kernel), List.mem_of_getElem? (i := 978) (by decide +kernel), List.mem_of_getElem? (i := 979) (by decide +kernel)⟩
theorem lw_p42 : lw_okq (⟨"ButlerWeatherModel", "doorOf", "(II)I"⟩, 38) := ⟨⟨by decide +kernel, by decide +kernel⟩, List.mem_of_getElem? (i := 706) (by decide +kernel), List.mem_of_getElem? (i := 986) (by decide +kernel), List.mem_of_getElem? (i := 987) (by decide +kernel)⟩
theorem lw_p43 : lw_okq (⟨"ButlerWeatherModel", "warmthOf", "(I)I"⟩, 38) := ⟨⟨by decide +kernel, by decide +kernel⟩, List.mem_of_getElem? (i := 706) (by decide +kernel), List.mem_of_getElem? (i := 994) (by decide +kernel), List.mem_of_getElem? (i := 995) (by decide +kernel)⟩
theorem lw_p44 : lw_okq (⟨"ButlerWeatherModel", "coldestOf", "()I"⟩, 38) := ⟨⟨by decide +kernel, by decide +kernel⟩, List.mem_of_getElem? (i := 706) (by decide +kernel), List.mem_of_getElem? (i := 1003) (by decide +kernel), List.mem_of_getElem? (i := 1004) (by decide +kernel)⟩
theorem lw_p45 : lw_okq (⟨"ButlerWeatherModel", "firstOf", "(I)I"⟩, 38) := ⟨⟨by decide +kernel, by decide +kernel⟩, List.mem_of_getElem? (i := 706) (by decide +kernel), List.mem_of_getElem? (i := 1014) (by decide +kernel), List.mem_of_getElem? (i := 1015) (by decide +kernel)⟩
theorem lw_p46 : lw_okq (⟨"ButlerWeatherModel", "sentOf", "()I"⟩, 38) := ⟨⟨by decide +kernel, by decide +kernel⟩, List.mem_of_getElem? (i := 706) (by decide +kernel), List.mem_of_getElem? (i := 1022) (by decide +kernel), List.mem_of_getElem? (i := 1023) (by decide +kernel)⟩
theorem lw_p47 : lw_okq (⟨"ButlerWeatherModel", "sentNow", "()I"⟩, 38) := ⟨⟨by decide +kernel, by decide +kernel⟩, List.mem_of_getElem? (i := 706) (by decide +kernel), List.mem_of_getElem? (i := 1026) (by decide +kernel), List.mem_of_getElem? (i := 1027) (by decide +kernel)⟩
def lw_privs_3 : List (MethodName × Nat) := [(⟨"ButlerWeatherModel", "runsTold", "()V"⟩, 38), (⟨"ButlerWeatherModel", "asTold", "()V"⟩, 38), (⟨"ButlerWeatherModel", "runs", "()V"⟩, 38), (⟨"ButlerWeatherModel", "goesBy", "(I)V"⟩, 38), (⟨"ButlerWeatherModel", "arrives", "(I)V"⟩, 38), (⟨"ButlerWeatherModel", "letsIn", "(III)V"⟩, 38), (⟨"ButlerWeatherModel", "onDuty", "(I)I"⟩, 38), (⟨"ButlerWeatherModel", "opens", "(II)V"⟩, 38), (⟨"ButlerWeatherModel", "hasCard", "(II)Z"⟩, 38), (⟨"ButlerWeatherModel", "nameOf", "(I)I"⟩, 38), (⟨"ButlerWeatherModel", "doorOf", "(II)I"⟩, 38), (⟨"ButlerWeatherModel", "warmthOf", "(I)I"⟩, 38), (⟨"ButlerWeatherModel", "coldestOf", "()I"⟩, 38), (⟨"ButlerWeatherModel", "firstOf", "(I)I"⟩, 38), (⟨"ButlerWeatherModel", "sentOf", "()I"⟩, 38), (⟨"ButlerWeatherModel", "sentNow", "()I"⟩, 38)]
theorem lw_r3 : ∀ q ∈ lw_privs_3, lw_okq q := List.forall_mem_cons.mpr ⟨lw_p32, List.forall_mem_cons.mpr ⟨lw_p33, List.forall_mem_cons.mpr ⟨lw_p34, List.forall_mem_cons.mpr ⟨lw_p35, List.forall_mem_cons.mpr ⟨lw_p36, List.forall_mem_cons.mpr ⟨lw_p37, List.forall_mem_cons.mpr ⟨lw_p38, List.forall_mem_cons.mpr ⟨lw_p39, List.forall_mem_cons.mpr ⟨lw_p40, List.forall_mem_cons.mpr ⟨lw_p41, List.forall_mem_cons.mpr ⟨lw_p42, List.forall_mem_cons.mpr ⟨lw_p43, List.forall_mem_cons.mpr ⟨lw_p44, List.forall_mem_cons.mpr ⟨lw_p45, List.forall_mem_cons.mpr ⟨lw_p46, List.forall_mem_cons.mpr ⟨lw_p47, fun _ h => absurd h List.not_mem_nil⟩⟩⟩⟩⟩⟩⟩⟩⟩⟩⟩⟩⟩⟩⟩⟩
theorem lw_p48 : lw_okq (⟨"ButlerWeatherModel", "wrongOf", "()I"⟩, 38) := ⟨⟨by decide +kernel, by decide +kernel⟩, List.mem_of_getElem? (i := 706) (by decide +kernel), List.mem_of_getElem? (i := 1034) (by decide +kernel), List.mem_of_getElem? (i := 1035) (by decide +kernel)⟩
theorem lw_p49 : lw_okq (⟨"ButlerWeatherModel", "sumOf", "()I"⟩, 38) := ⟨⟨by decide +kernel, by decide +kernel⟩, List.mem_of_getElem? (i := 706) (by decide +kernel), List.mem_of_getElem? (i := 1042) (by decide +kernel), List.mem_of_getElem? (i := 1043) (by decide +kernel)⟩
theorem lw_p50 : lw_okq (⟨"ButlerWeatherModel", "sumNow", "()I"⟩, 38) := ⟨⟨by decide +kernel, by decide +kernel⟩, List.mem_of_getElem? (i := 706) (by decide +kernel), List.mem_of_getElem? (i := 1046) (by decide +kernel), List.mem_of_getElem? (i := 1047) (by decide +kernel)⟩
theorem lw_p51 : lw_okq (⟨"ButlerWeatherModel", "leaveOf", "(II)I"⟩, 38) := ⟨⟨by decide +kernel, by decide +kernel⟩, List.mem_of_getElem? (i := 706) (by decide +kernel), List.mem_of_getElem? (i := 1054) (by decide +kernel), List.mem_of_getElem? (i := 1055) (by decide +kernel)⟩
theorem lw_p52 : lw_okq (⟨"ButlerWeatherModel", "beginOf", "(II)I"⟩, 38) := ⟨⟨by decide +kernel, by decide +kernel⟩, List.mem_of_getElem? (i := 706) (by decide +kernel), List.mem_of_getElem? (i := 1063) (by decide +kernel), List.mem_of_getElem? (i := 1064) (by decide +kernel)⟩
theorem lw_p53 : lw_okq (⟨"ButlerWeatherModel", "insNow", "()I"⟩, 38) := ⟨⟨by decide +kernel, by decide +kernel⟩, List.mem_of_getElem? (i := 706) (by decide +kernel), List.mem_of_getElem? (i := 1067) (by decide +kernel), List.mem_of_getElem? (i := 1068) (by decide +kernel)⟩
theorem lw_p54 : lw_okq (⟨"ButlerWeatherModel", "waitOf", "(I)I"⟩, 38) := ⟨⟨by decide +kernel, by decide +kernel⟩, List.mem_of_getElem? (i := 706) (by decide +kernel), List.mem_of_getElem? (i := 1075) (by decide +kernel), List.mem_of_getElem? (i := 1076) (by decide +kernel)⟩
theorem lw_p55 : lw_okq (⟨"ButlerWeatherModel", "burnBy", "()I"⟩, 38) := ⟨⟨by decide +kernel, by decide +kernel⟩, List.mem_of_getElem? (i := 706) (by decide +kernel), List.mem_of_getElem? (i := 1083) (by decide +kernel), List.mem_of_getElem? (i := 1084) (by decide +kernel)⟩
theorem lw_p56 : lw_okq (⟨"ButlerWeatherModel", "isBurnt", "(I)Z"⟩, 38) := ⟨⟨by decide +kernel, by decide +kernel⟩, List.mem_of_getElem? (i := 706) (by decide +kernel), List.mem_of_getElem? (i := 1087) (by decide +kernel), List.mem_of_getElem? (i := 1088) (by decide +kernel)⟩
theorem lw_p57 : lw_okq (⟨"ButlerWeatherModel", "ofRow", "(II)I"⟩, 38) := ⟨⟨by decide +kernel, by decide +kernel⟩, List.mem_of_getElem? (i := 706) (by decide +kernel), List.mem_of_getElem? (i := 1091) (by decide +kernel), List.mem_of_getElem? (i := 1092) (by decide +kernel)⟩
theorem lw_p58 : lw_okq (⟨"ButlerWeatherModel", "neverNow", "()I"⟩, 38) := ⟨⟨by decide +kernel, by decide +kernel⟩, List.mem_of_getElem? (i := 706) (by decide +kernel), List.mem_of_getElem? (i := 1107) (by decide +kernel), List.mem_of_getElem? (i := 1108) (by decide +kernel)⟩
theorem lw_p59 : lw_okq (⟨"ButlerWeatherModel", "isFelt", "()Z"⟩, 38) := ⟨⟨by decide +kernel, by decide +kernel⟩, List.mem_of_getElem? (i := 706) (by decide +kernel), List.mem_of_getElem? (i := 1111) (by decide +kernel), List.mem_of_getElem? (i := 1112) (by decide +kernel)⟩
theorem lw_p60 : lw_okq (⟨"ButlerWeatherModel", "sortsBy", "(I)I"⟩, 38) := ⟨⟨by decide +kernel, by decide +kernel⟩, List.mem_of_getElem? (i := 706) (by decide +kernel), List.mem_of_getElem? (i := 1119) (by decide +kernel), List.mem_of_getElem? (i := 1120) (by decide +kernel)⟩
theorem lw_p61 : lw_okq (⟨"ButlerWeatherModel", "longBy", "(I)I"⟩, 38) := ⟨⟨by decide +kernel, by decide +kernel⟩, List.mem_of_getElem? (i := 706) (by decide +kernel), List.mem_of_getElem? (i := 1123) (by decide +kernel), List.mem_of_getElem? (i := 1124) (by decide +kernel)⟩
theorem lw_p62 : lw_okq (⟨"ButlerWeatherModel", "askOf", "(I)I"⟩, 38) := ⟨⟨by decide +kernel, by decide +kernel⟩, List.mem_of_getElem? (i := 706) (by decide +kernel), List.mem_of_getElem? (i := 1131) (by decide +kernel), List.mem_of_getElem? (i := 1132) (by decide +kernel)⟩
theorem lw_p63 : lw_okq (⟨"ButlerWeatherModel", "chanceOf", "(III)J"⟩, 38) := ⟨⟨by decide +kernel, by decide +kernel⟩, List.mem_of_getElem? (i := 706) (by decide +kernel), List.mem_of_getElem? (i := 1139) (by decide +kernel), List.mem_of_getElem? (i := 1140) (by decide +kernel)⟩
def lw_privs_4 : List (MethodName × Nat) := [(⟨"ButlerWeatherModel", "wrongOf", "()I"⟩, 38), (⟨"ButlerWeatherModel", "sumOf", "()I"⟩, 38), (⟨"ButlerWeatherModel", "sumNow", "()I"⟩, 38), (⟨"ButlerWeatherModel", "leaveOf", "(II)I"⟩, 38), (⟨"ButlerWeatherModel", "beginOf", "(II)I"⟩, 38), (⟨"ButlerWeatherModel", "insNow", "()I"⟩, 38), (⟨"ButlerWeatherModel", "waitOf", "(I)I"⟩, 38), (⟨"ButlerWeatherModel", "burnBy", "()I"⟩, 38), (⟨"ButlerWeatherModel", "isBurnt", "(I)Z"⟩, 38), (⟨"ButlerWeatherModel", "ofRow", "(II)I"⟩, 38), (⟨"ButlerWeatherModel", "neverNow", "()I"⟩, 38), (⟨"ButlerWeatherModel", "isFelt", "()Z"⟩, 38), (⟨"ButlerWeatherModel", "sortsBy", "(I)I"⟩, 38), (⟨"ButlerWeatherModel", "longBy", "(I)I"⟩, 38), (⟨"ButlerWeatherModel", "askOf", "(I)I"⟩, 38), (⟨"ButlerWeatherModel", "chanceOf", "(III)J"⟩, 38)]
theorem lw_r4 : ∀ q ∈ lw_privs_4, lw_okq q := List.forall_mem_cons.mpr ⟨lw_p48, List.forall_mem_cons.mpr ⟨lw_p49, List.forall_mem_cons.mpr ⟨lw_p50, List.forall_mem_cons.mpr ⟨lw_p51, List.forall_mem_cons.mpr ⟨lw_p52, List.forall_mem_cons.mpr ⟨lw_p53, List.forall_mem_cons.mpr ⟨lw_p54, List.forall_mem_cons.mpr ⟨lw_p55, List.forall_mem_cons.mpr ⟨lw_p56, List.forall_mem_cons.mpr ⟨lw_p57, List.forall_mem_cons.mpr ⟨lw_p58, List.forall_mem_cons.mpr ⟨lw_p59, List.forall_mem_cons.mpr ⟨lw_p60, List.forall_mem_cons.mpr ⟨lw_p61, List.forall_mem_cons.mpr ⟨lw_p62, List.forall_mem_cons.mpr ⟨lw_p63, fun _ h => absurd h List.not_mem_nil⟩⟩⟩⟩⟩⟩⟩⟩⟩⟩⟩⟩⟩⟩⟩⟩
theorem lw_p64 : lw_okq (⟨"ButlerWeatherModel", "yearsOf", "(III)I"⟩, 38) := ⟨⟨by decide +kernel, by decide +kernel⟩, List.mem_of_getElem? (i := 706) (by decide +kernel), List.mem_of_getElem? (i := 1154) (by decide +kernel), List.mem_of_getElem? (i := 1155) (by decide +kernel)⟩
theorem lw_p65 : lw_okq (⟨"ButlerWeatherModel", "lacks", "(III)I"⟩, 38) := ⟨⟨by decide +kernel, by decide +kernel⟩, List.mem_of_getElem? (i := 706) (by decide +kernel), List.mem_of_getElem? (i := 1171) (by decide +kernel), List.mem_of_getElem? (i := 1172) (by decide +kernel)⟩
theorem lw_p66 : lw_okq (⟨"ButlerWeatherModel", "keep", "(III)V"⟩, 38) := ⟨⟨by decide +kernel, by decide +kernel⟩, List.mem_of_getElem? (i := 706) (by decide +kernel), List.mem_of_getElem? (i := 1175) (by decide +kernel), List.mem_of_getElem? (i := 1176) (by decide +kernel)⟩
theorem lw_p67 : lw_okq (⟨"ButlerWeatherModel", "tellOf", "(I)I"⟩, 38) := ⟨⟨by decide +kernel, by decide +kernel⟩, List.mem_of_getElem? (i := 706) (by decide +kernel), List.mem_of_getElem? (i := 1195) (by decide +kernel), List.mem_of_getElem? (i := 1196) (by decide +kernel)⟩
theorem lw_p68 : lw_okq (⟨"ButlerWeatherModel", "ones", "(I)I"⟩, 38) := ⟨⟨by decide +kernel, by decide +kernel⟩, List.mem_of_getElem? (i := 706) (by decide +kernel), List.mem_of_getElem? (i := 1199) (by decide +kernel), List.mem_of_getElem? (i := 1200) (by decide +kernel)⟩
theorem lw_p69 : lw_okq (⟨"ButlerWeatherModel", "manDigest", "(JI)J"⟩, 38) := ⟨⟨by decide +kernel, by decide +kernel⟩, List.mem_of_getElem? (i := 706) (by decide +kernel), List.mem_of_getElem? (i := 1210) (by decide +kernel), List.mem_of_getElem? (i := 1211) (by decide +kernel)⟩
theorem lw_p70 : lw_okq (⟨"ButlerWeatherModel", "callerDigest", "(JI)J"⟩, 38) := ⟨⟨by decide +kernel, by decide +kernel⟩, List.mem_of_getElem? (i := 706) (by decide +kernel), List.mem_of_getElem? (i := 1214) (by decide +kernel), List.mem_of_getElem? (i := 1215) (by decide +kernel)⟩
def lw_privs_5 : List (MethodName × Nat) := [(⟨"ButlerWeatherModel", "yearsOf", "(III)I"⟩, 38), (⟨"ButlerWeatherModel", "lacks", "(III)I"⟩, 38), (⟨"ButlerWeatherModel", "keep", "(III)V"⟩, 38), (⟨"ButlerWeatherModel", "tellOf", "(I)I"⟩, 38), (⟨"ButlerWeatherModel", "ones", "(I)I"⟩, 38), (⟨"ButlerWeatherModel", "manDigest", "(JI)J"⟩, 38), (⟨"ButlerWeatherModel", "callerDigest", "(JI)J"⟩, 38)]
theorem lw_r5 : ∀ q ∈ lw_privs_5, lw_okq q := List.forall_mem_cons.mpr ⟨lw_p64, List.forall_mem_cons.mpr ⟨lw_p65, List.forall_mem_cons.mpr ⟨lw_p66, List.forall_mem_cons.mpr ⟨lw_p67, List.forall_mem_cons.mpr ⟨lw_p68, List.forall_mem_cons.mpr ⟨lw_p69, List.forall_mem_cons.mpr ⟨lw_p70, fun _ h => absurd h List.not_mem_nil⟩⟩⟩⟩⟩⟩⟩
def lw_privs : List (MethodName × Nat) := lw_privs_1 ++ (lw_privs_2 ++ (lw_privs_3 ++ (lw_privs_4 ++ (lw_privs_5))))
def lw_tbl : List Cond := k2_sels lw_privs ++ tables_1
theorem lw_privs_ok : ∀ q ∈ lw_privs, lw_okq q := by
  show ∀ q ∈ lw_privs_1 ++ (lw_privs_2 ++ (lw_privs_3 ++ (lw_privs_4 ++ (lw_privs_5)))), lw_okq q
  exact List.forall_mem_append.mpr ⟨lw_r1, List.forall_mem_append.mpr ⟨lw_r2, List.forall_mem_append.mpr ⟨lw_r3, List.forall_mem_append.mpr ⟨lw_r4, lw_r5⟩⟩⟩⟩

def RX0 : String := "ButlerWeather$Cards"
def TX0 : u_T := fun k => match k with
  | 0 => ("ButlerWeather$Cards", "day", "[I", true)
  | 1 => ("ButlerWeather$Cards", "caller", "[I", true)
  | _ => ("ButlerWeather$Cards", "size", "I", false)
def tyX0 : Nat → FieldType := fun k => match k with
  | 0 => .array .int
  | 1 => .array .int
  | _ => .int
abbrev wsX00 : List Cond := u_ws RX0 TX0 3
theorem nmX0 : ∀ a, a < 3 → ∀ b, b < 3 → a ≠ b → (TX0 a).2.1 ≠ (TX0 b).2.1 := by decide +kernel
theorem tyX0_ok : ∀ k, k < 3 → parseFieldDescriptor (TX0 k).2.2.1 = some (tyX0 k) := by decide +kernel
abbrev cX0_init : ByteArray := prog_2_method_1_code
def yX0_init : MethodName := ⟨RX0, "<init>", "()V"⟩
abbrev cX0_append : ByteArray := prog_2_method_2_code
def yX0_append : MethodName := ⟨RX0, "append", "(II)I"⟩
abbrev cX0_dropLast : ByteArray := prog_2_method_3_code
def yX0_dropLast : MethodName := ⟨RX0, "dropLast", "()I"⟩
abbrev cX0_inviteAllBut : ByteArray := prog_2_method_4_code
def yX0_inviteAllBut : MethodName := ⟨RX0, "inviteAllBut", "(ILButlerWeather$House;)V"⟩
def RX1 : String := "ButlerWeather$Felt"
def TX1 : u_T := fun k => match k with
  | 0 => ("ButlerWeather$Felt", "day", "[I", true)
  | 1 => ("ButlerWeather$Felt", "warmth", "[I", true)
  | _ => ("ButlerWeather$Felt", "size", "I", false)
def tyX1 : Nat → FieldType := fun k => match k with
  | 0 => .array .int
  | 1 => .array .int
  | _ => .int
abbrev wsX10 : List Cond := u_ws RX1 TX1 3
theorem nmX1 : ∀ a, a < 3 → ∀ b, b < 3 → a ≠ b → (TX1 a).2.1 ≠ (TX1 b).2.1 := by decide +kernel
theorem tyX1_ok : ∀ k, k < 3 → parseFieldDescriptor (TX1 k).2.2.1 = some (tyX1 k) := by decide +kernel
abbrev cX1_init : ByteArray := prog_3_method_1_code
def yX1_init : MethodName := ⟨RX1, "<init>", "()V"⟩
abbrev cX1_append : ByteArray := prog_3_method_2_code
def yX1_append : MethodName := ⟨RX1, "append", "(II)I"⟩
abbrev cX1_clear : ByteArray := prog_3_method_3_code
def yX1_clear : MethodName := ⟨RX1, "clear", "()I"⟩
abbrev cX1_fits : ByteArray := prog_3_method_4_code
def yX1_fits : MethodName := ⟨RX1, "fits", "(LButlerWeather$House;)Z"⟩
def RX2 : String := "ButlerWeather$House"
def TX2 : u_T := fun k => match k with
  | 0 => ("ButlerWeather$House", "callers", "I", false)
  | 1 => ("ButlerWeather$House", "sort", "[I", true)
  | 2 => ("ButlerWeather$House", "waits", "[I", true)
  | 3 => ("ButlerWeather$House", "calls", "[I", true)
  | 4 => ("ButlerWeather$House", "force", "[I", true)
  | 5 => ("ButlerWeather$House", "invited", "[I", true)
  | 6 => ("ButlerWeather$House", "men", "I", false)
  | 7 => ("ButlerWeather$House", "rank", "[I", true)
  | 8 => ("ButlerWeather$House", "from", "[I", true)
  | 9 => ("ButlerWeather$House", "until", "[I", true)
  | 10 => ("ButlerWeather$House", "coming", "[I", true)
  | 11 => ("ButlerWeather$House", "cameIn", "[I", true)
  | 12 => ("ButlerWeather$House", "sentOn", "[I", true)
  | _ => ("ButlerWeather$House", "named", "[I", true)
def tyX2 : Nat → FieldType := fun k => match k with
  | 0 => .int
  | 1 => .array .int
  | 2 => .array .int
  | 3 => .array .int
  | 4 => .array .int
  | 5 => .array .int
  | 6 => .int
  | 7 => .array .int
  | 8 => .array .int
  | 9 => .array .int
  | 10 => .array .int
  | 11 => .array .int
  | 12 => .array .int
  | _ => .array .int
abbrev wsX20 : List Cond := u_ws RX2 TX2 14
theorem nmX2 : ∀ a, a < 14 → ∀ b, b < 14 → a ≠ b → (TX2 a).2.1 ≠ (TX2 b).2.1 := by decide +kernel
theorem tyX2_ok : ∀ k, k < 14 → parseFieldDescriptor (TX2 k).2.2.1 = some (tyX2 k) := by decide +kernel
abbrev cX2_init : ByteArray := prog_4_method_1_code
def yX2_init : MethodName := ⟨RX2, "<init>", "()V"⟩
abbrev cX2_hasCaller : ByteArray := prog_4_method_2_code
def yX2_hasCaller : MethodName := ⟨RX2, "hasCaller", "(I)Z"⟩
abbrev cX2_hasMan : ByteArray := prog_4_method_3_code
def yX2_hasMan : MethodName := ⟨RX2, "hasMan", "(I)Z"⟩
abbrev cX2_takeCallers : ByteArray := prog_4_method_4_code
def yX2_takeCallers : MethodName := ⟨RX2, "takeCallers", "(LButlerWeather$Text;I)V"⟩
abbrev cX2_takeMen : ByteArray := prog_4_method_5_code
def yX2_takeMen : MethodName := ⟨RX2, "takeMen", "(LButlerWeather$Text;I)V"⟩
abbrev cX2_become : ByteArray := prog_4_method_6_code
def yX2_become : MethodName := ⟨RX2, "become", "(LButlerWeather$House;)V"⟩
abbrev cX2_uninviteAll : ByteArray := prog_4_method_7_code
def yX2_uninviteAll : MethodName := ⟨RX2, "uninviteAll", "()V"⟩
abbrev cX2_invite : ByteArray := prog_4_method_8_code
def yX2_invite : MethodName := ⟨RX2, "invite", "(II)V"⟩
abbrev cX2_live : ByteArray := prog_4_method_9_code
def yX2_live : MethodName := ⟨RX2, "live", "()V"⟩
abbrev cX2_gather : ByteArray := prog_4_method_10_code
def yX2_gather : MethodName := ⟨RX2, "gather", "()V"⟩
abbrev cX2_receive : ByteArray := prog_4_method_11_code
def yX2_receive : MethodName := ⟨RX2, "receive", "(II)I"⟩
abbrev cX2_openDoor : ByteArray := prog_4_method_12_code
def yX2_openDoor : MethodName := ⟨RX2, "openDoor", "(II)I"⟩
abbrev cX2_sendSunshines : ByteArray := prog_4_method_13_code
def yX2_sendSunshines : MethodName := ⟨RX2, "sendSunshines", "(II)I"⟩
abbrev cX2_longestInvited : ByteArray := prog_4_method_14_code
def yX2_longestInvited : MethodName := ⟨RX2, "longestInvited", "(II)I"⟩
abbrev cX2_letIn : ByteArray := prog_4_method_15_code
def yX2_letIn : MethodName := ⟨RX2, "letIn", "(III)V"⟩
abbrev cX2_sendWeary : ByteArray := prog_4_method_16_code
def yX2_sendWeary : MethodName := ⟨RX2, "sendWeary", "(II)I"⟩
abbrev cX2_manAt : ByteArray := prog_4_method_17_code
def yX2_manAt : MethodName := ⟨RX2, "manAt", "(I)I"⟩
abbrev cX2_isIn : ByteArray := prog_4_method_18_code
def yX2_isIn : MethodName := ⟨RX2, "isIn", "(II)Z"⟩
abbrev cX2_standing : ByteArray := prog_4_method_19_code
def yX2_standing : MethodName := ⟨RX2, "standing", "(II)I"⟩
abbrev cX2_warmthOn : ByteArray := prog_4_method_20_code
def yX2_warmthOn : MethodName := ⟨RX2, "warmthOn", "(I)I"⟩
abbrev cX2_warmer : ByteArray := prog_4_method_21_code
def yX2_warmer : MethodName := ⟨RX2, "warmer", "(I)I"⟩
abbrev cX2_hatsOn : ByteArray := prog_4_method_22_code
def yX2_hatsOn : MethodName := ⟨RX2, "hatsOn", "(I)I"⟩
abbrev cX2_stepOn : ByteArray := prog_4_method_23_code
def yX2_stepOn : MethodName := ⟨RX2, "stepOn", "(I)I"⟩
abbrev cX2_total : ByteArray := prog_4_method_24_code
def yX2_total : MethodName := ⟨RX2, "total", "()I"⟩
abbrev cX2_everIn : ByteArray := prog_4_method_25_code
def yX2_everIn : MethodName := ⟨RX2, "everIn", "()I"⟩
abbrev cX2_sentBits : ByteArray := prog_4_method_26_code
def yX2_sentBits : MethodName := ⟨RX2, "sentBits", "()I"⟩
abbrev cX2_thoseWithADay : ByteArray := prog_4_method_27_code
def yX2_thoseWithADay : MethodName := ⟨RX2, "thoseWithADay", "([I)I"⟩
abbrev cX2_misnamed : ByteArray := prog_4_method_28_code
def yX2_misnamed : MethodName := ⟨RX2, "misnamed", "()I"⟩
abbrev cX2_hasNamed : ByteArray := prog_4_method_29_code
def yX2_hasNamed : MethodName := ⟨RX2, "hasNamed", "(I)Z"⟩
abbrev cX2_firstByDoor : ByteArray := prog_4_method_30_code
def yX2_firstByDoor : MethodName := ⟨RX2, "firstByDoor", "()I"⟩
def RX3 : String := "ButlerWeather$Odds"
def TX3 : u_T := fun k => match k with
  | 0 => ("ButlerWeather$Odds", "ways", "[[I", true)
  | 1 => ("ButlerWeather$Odds", "counted", "Z", false)
  | _ => ("ButlerWeather$Odds", "warmth", "[[I", true)
def tyX3 : Nat → FieldType := fun k => match k with
  | 0 => .array (.array .int)
  | 1 => .boolean
  | _ => .array (.array .int)
abbrev wsX30 : List Cond := u_ws RX3 TX3 3
theorem nmX3 : ∀ a, a < 3 → ∀ b, b < 3 → a ≠ b → (TX3 a).2.1 ≠ (TX3 b).2.1 := by decide +kernel
theorem tyX3_ok : ∀ k, k < 3 → parseFieldDescriptor (TX3 k).2.2.1 = some (tyX3 k) := by decide +kernel
abbrev cX3_init : ByteArray := prog_5_method_1_code
def yX3_init : MethodName := ⟨RX3, "<init>", "()V"⟩
abbrev cX3_countWays : ByteArray := prog_5_method_2_code
def yX3_countWays : MethodName := ⟨RX3, "countWays", "(LButlerWeather$House;LButlerWeather$Cards;)V"⟩
abbrev cX3_above : ByteArray := prog_5_method_3_code
def yX3_above : MethodName := ⟨RX3, "above", "(III)J"⟩
abbrev cX3_power : ByteArray := prog_5_method_4_code
def yX3_power : MethodName := ⟨RX3, "power", "(II)J"⟩
abbrev cX3_keepFitting : ByteArray := prog_5_method_5_code
def yX3_keepFitting : MethodName := ⟨RX3, "keepFitting", "(LButlerWeather$House;LButlerWeather$Felt;I)I"⟩
abbrev cX3_greatestAlike : ByteArray := prog_5_method_6_code
def yX3_greatestAlike : MethodName := ⟨RX3, "greatestAlike", "(II)I"⟩
def RX4 : String := "ButlerWeather$Sheet"
def TX4 : u_T := fun k => match k with
  | 0 => ("ButlerWeather$Sheet", "form", "I", false)
  | 1 => ("ButlerWeather$Sheet", "size", "I", false)
  | _ => ("ButlerWeather$Sheet", "items", "[I", true)
def tyX4 : Nat → FieldType := fun k => match k with
  | 0 => .int
  | 1 => .int
  | _ => .array .int
abbrev wsX40 : List Cond := u_ws RX4 TX4 3
theorem nmX4 : ∀ a, a < 3 → ∀ b, b < 3 → a ≠ b → (TX4 a).2.1 ≠ (TX4 b).2.1 := by decide +kernel
theorem tyX4_ok : ∀ k, k < 3 → parseFieldDescriptor (TX4 k).2.2.1 = some (tyX4 k) := by decide +kernel
abbrev cX4_init : ByteArray := prog_6_method_1_code
def yX4_init : MethodName := ⟨RX4, "<init>", "()V"⟩
abbrev cX4_isLost : ByteArray := prog_6_method_2_code
def yX4_isLost : MethodName := ⟨RX4, "isLost", "()Z"⟩
abbrev cX4_renew : ByteArray := prog_6_method_3_code
def yX4_renew : MethodName := ⟨RX4, "renew", "(II)V"⟩
abbrev cX4_beLost : ByteArray := prog_6_method_4_code
def yX4_beLost : MethodName := ⟨RX4, "beLost", "()I"⟩
abbrev cX4_hindrance : ByteArray := prog_6_method_5_code
def yX4_hindrance : MethodName := ⟨RX4, "hindrance", "(II)I"⟩
abbrev cX4_hasRun : ByteArray := prog_6_method_6_code
def yX4_hasRun : MethodName := ⟨RX4, "hasRun", "(II)Z"⟩
abbrev cX4_store : ByteArray := prog_6_method_7_code
def yX4_store : MethodName := ⟨RX4, "store", "(II)V"⟩
def RX5 : String := "ButlerWeather$Text"
def TX5 : u_T := fun k => match k with
  | 0 => ("ButlerWeather$Text", "signs", "[I", true)
  | 1 => ("ButlerWeather$Text", "most", "I", true)
  | 2 => ("ButlerWeather$Text", "bytes", "[I", true)
  | _ => ("ButlerWeather$Text", "size", "I", false)
def tyX5 : Nat → FieldType := fun k => match k with
  | 0 => .array .int
  | 1 => .int
  | 2 => .array .int
  | _ => .int
abbrev wsX50 : List Cond := u_ws RX5 TX5 4
theorem nmX5 : ∀ a, a < 4 → ∀ b, b < 4 → a ≠ b → (TX5 a).2.1 ≠ (TX5 b).2.1 := by decide +kernel
theorem tyX5_ok : ∀ k, k < 4 → parseFieldDescriptor (TX5 k).2.2.1 = some (tyX5 k) := by decide +kernel
abbrev cX5_init : ByteArray := prog_7_method_1_code
def yX5_init : MethodName := ⟨RX5, "<init>", "([II)V"⟩
abbrev cX5_hasRoom : ByteArray := prog_7_method_2_code
def yX5_hasRoom : MethodName := ⟨RX5, "hasRoom", "()Z"⟩
abbrev cX5_append : ByteArray := prog_7_method_3_code
def yX5_append : MethodName := ⟨RX5, "append", "(I)I"⟩
abbrev cX5_clear : ByteArray := prog_7_method_4_code
def yX5_clear : MethodName := ⟨RX5, "clear", "()I"⟩
abbrev cX5_dropLast : ByteArray := prog_7_method_5_code
def yX5_dropLast : MethodName := ⟨RX5, "dropLast", "()I"⟩
abbrev cX5_firstFault : ByteArray := prog_7_method_6_code
def yX5_firstFault : MethodName := ⟨RX5, "firstFault", "()I"⟩
abbrev cX5_itemCount : ByteArray := prog_7_method_7_code
def yX5_itemCount : MethodName := ⟨RX5, "itemCount", "()I"⟩
abbrev cX5_value : ByteArray := prog_7_method_8_code
def yX5_value : MethodName := ⟨RX5, "value", "(II)I"⟩
abbrev cX5_meaning : ByteArray := prog_7_method_9_code
def yX5_meaning : MethodName := ⟨RX5, "meaning", "(II)I"⟩
def RX6 : String := "ButlerWeather"
def TX6 : u_T := fun k => match k with
  | 0 => ("ButlerWeather", "texts", "[LButlerWeather$Text;", true)
  | 1 => ("ButlerWeather", "cards", "LButlerWeather$Cards;", true)
  | 2 => ("ButlerWeather", "felt", "LButlerWeather$Felt;", true)
  | 3 => ("ButlerWeather", "sheets", "[LButlerWeather$Sheet;", true)
  | 4 => ("ButlerWeather", "home", "LButlerWeather$House;", true)
  | 5 => ("ButlerWeather", "trial", "LButlerWeather$House;", true)
  | 6 => ("ButlerWeather", "odds", "LButlerWeather$Odds;", true)
  | 7 => ("ButlerWeather", "settled", "Z", false)
  | _ => ("ButlerWeather", "finding", "I", false)
def tyX6 : Nat → FieldType := fun k => match k with
  | 0 => .array (.object "ButlerWeather$Text")
  | 1 => .object "ButlerWeather$Cards"
  | 2 => .object "ButlerWeather$Felt"
  | 3 => .array (.object "ButlerWeather$Sheet")
  | 4 => .object "ButlerWeather$House"
  | 5 => .object "ButlerWeather$House"
  | 6 => .object "ButlerWeather$Odds"
  | 7 => .boolean
  | _ => .int
abbrev wsX60 : List Cond := u_ws RX6 TX6 9
theorem nmX6 : ∀ a, a < 9 → ∀ b, b < 9 → a ≠ b → (TX6 a).2.1 ≠ (TX6 b).2.1 := by decide +kernel
theorem tyX6_ok : ∀ k, k < 9 → parseFieldDescriptor (TX6 k).2.2.1 = some (tyX6 k) := by decide +kernel
abbrev cX6_init : ByteArray := prog_1_method_1_code
def yX6_init : MethodName := ⟨RX6, "<init>", "()V"⟩
abbrev cX6_type : ByteArray := prog_1_method_2_code
def yX6_type : MethodName := ⟨RX6, "type", "(II)I"⟩
abbrev cX6_wipe : ByteArray := prog_1_method_3_code
def yX6_wipe : MethodName := ⟨RX6, "wipe", "(I)I"⟩
abbrev cX6_undo : ByteArray := prog_1_method_4_code
def yX6_undo : MethodName := ⟨RX6, "undo", "(I)I"⟩
abbrev cX6_fault : ByteArray := prog_1_method_5_code
def yX6_fault : MethodName := ⟨RX6, "fault", "(I)I"⟩
abbrev cX6_caller : ByteArray := prog_1_method_6_code
def yX6_caller : MethodName := ⟨RX6, "caller", "(II)I"⟩
abbrev cX6_man : ByteArray := prog_1_method_7_code
def yX6_man : MethodName := ⟨RX6, "man", "(II)I"⟩
abbrev cX6_card : ByteArray := prog_1_method_8_code
def yX6_card : MethodName := ⟨RX6, "card", "(II)I"⟩
abbrev cX6_back : ByteArray := prog_1_method_9_code
def yX6_back : MethodName := ⟨RX6, "back", "()I"⟩
abbrev cX6_read : ByteArray := prog_1_method_10_code
def yX6_read : MethodName := ⟨RX6, "read", "(I)I"⟩
abbrev cX6_stands : ByteArray := prog_1_method_11_code
def yX6_stands : MethodName := ⟨RX6, "stands", "(II)I"⟩
abbrev cX6_name : ByteArray := prog_1_method_12_code
def yX6_name : MethodName := ⟨RX6, "name", "(I)I"⟩
abbrev cX6_door : ByteArray := prog_1_method_13_code
def yX6_door : MethodName := ⟨RX6, "door", "(II)I"⟩
abbrev cX6_warmth : ByteArray := prog_1_method_14_code
def yX6_warmth : MethodName := ⟨RX6, "warmth", "(I)I"⟩
abbrev cX6_coldest : ByteArray := prog_1_method_15_code
def yX6_coldest : MethodName := ⟨RX6, "coldest", "()I"⟩
abbrev cX6_first : ByteArray := prog_1_method_16_code
def yX6_first : MethodName := ⟨RX6, "first", "(I)I"⟩
abbrev cX6_sent : ByteArray := prog_1_method_17_code
def yX6_sent : MethodName := ⟨RX6, "sent", "()I"⟩
abbrev cX6_wrong : ByteArray := prog_1_method_18_code
def yX6_wrong : MethodName := ⟨RX6, "wrong", "()I"⟩
abbrev cX6_sum : ByteArray := prog_1_method_19_code
def yX6_sum : MethodName := ⟨RX6, "sum", "()I"⟩
abbrev cX6_leave : ByteArray := prog_1_method_20_code
def yX6_leave : MethodName := ⟨RX6, "leave", "(II)I"⟩
abbrev cX6_begin : ByteArray := prog_1_method_21_code
def yX6_begin : MethodName := ⟨RX6, "begin", "(II)I"⟩
abbrev cX6_patience : ByteArray := prog_1_method_22_code
def yX6_patience : MethodName := ⟨RX6, "patience", "(I)I"⟩
abbrev cX6_burn : ByteArray := prog_1_method_23_code
def yX6_burn : MethodName := ⟨RX6, "burn", "(I)I"⟩
abbrev cX6_feel : ByteArray := prog_1_method_24_code
def yX6_feel : MethodName := ⟨RX6, "feel", "(II)I"⟩
abbrev cX6_forget : ByteArray := prog_1_method_25_code
def yX6_forget : MethodName := ⟨RX6, "forget", "()I"⟩
abbrev cX6_never : ByteArray := prog_1_method_26_code
def yX6_never : MethodName := ⟨RX6, "never", "()I"⟩
abbrev cX6_was : ByteArray := prog_1_method_27_code
def yX6_was : MethodName := ⟨RX6, "was", "(II)I"⟩
abbrev cX6_ask : ByteArray := prog_1_method_28_code
def yX6_ask : MethodName := ⟨RX6, "ask", "(I)I"⟩
abbrev cX6_chance : ByteArray := prog_1_method_29_code
def yX6_chance : MethodName := ⟨RX6, "chance", "(III)J"⟩
abbrev cX6_years : ByteArray := prog_1_method_30_code
def yX6_years : MethodName := ⟨RX6, "years", "(III)I"⟩
abbrev cX6_sheet : ByteArray := prog_1_method_31_code
def yX6_sheet : MethodName := ⟨RX6, "sheet", "(III)I"⟩
abbrev cX6_lose : ByteArray := prog_1_method_32_code
def yX6_lose : MethodName := ⟨RX6, "lose", "(I)I"⟩
abbrev cX6_put : ByteArray := prog_1_method_33_code
def yX6_put : MethodName := ⟨RX6, "put", "(IIII)I"⟩
abbrev cX6_get : ByteArray := prog_1_method_34_code
def yX6_get : MethodName := ⟨RX6, "get", "(III)I"⟩
abbrev cX6_copy : ByteArray := prog_1_method_35_code
def yX6_copy : MethodName := ⟨RX6, "copy", "(IIIII)I"⟩
abbrev cX6_write : ByteArray := prog_1_method_36_code
def yX6_write : MethodName := ⟨RX6, "write", "(I)I"⟩
abbrev cX6_count : ByteArray := prog_1_method_37_code
def yX6_count : MethodName := ⟨RX6, "count", "(I)I"⟩
abbrev cX6_digest : ByteArray := prog_1_method_38_code
def yX6_digest : MethodName := ⟨RX6, "digest", "()J"⟩
abbrev cX6_digestMen : ByteArray := prog_1_method_39_code
def yX6_digestMen : MethodName := ⟨RX6, "digestMen", "(J)J"⟩
abbrev cX6_digestCallers : ByteArray := prog_1_method_40_code
def yX6_digestCallers : MethodName := ⟨RX6, "digestCallers", "(J)J"⟩
abbrev cX6_digestDays : ByteArray := prog_1_method_41_code
def yX6_digestDays : MethodName := ⟨RX6, "digestDays", "(J)J"⟩
abbrev cX6_within : ByteArray := prog_1_method_42_code
def yX6_within : MethodName := ⟨RX6, "within", "(III)Z"⟩
abbrev cX6_isText : ByteArray := prog_1_method_43_code
def yX6_isText : MethodName := ⟨RX6, "isText", "(I)Z"⟩
abbrev cX6_isDay : ByteArray := prog_1_method_44_code
def yX6_isDay : MethodName := ⟨RX6, "isDay", "(I)Z"⟩
abbrev cX6_isSheet : ByteArray := prog_1_method_45_code
def yX6_isSheet : MethodName := ⟨RX6, "isSheet", "(I)Z"⟩
abbrev cX6_isForm : ByteArray := prog_1_method_46_code
def yX6_isForm : MethodName := ⟨RX6, "isForm", "(I)Z"⟩
abbrev cX6_placeOfBit : ByteArray := prog_1_method_47_code
def yX6_placeOfBit : MethodName := ⟨RX6, "placeOfBit", "(II)I"⟩
abbrev cX6_found : ByteArray := prog_1_method_48_code
def yX6_found : MethodName := ⟨RX6, "found", "(I)I"⟩
abbrev cX6_addCard : ByteArray := prog_1_method_49_code
def yX6_addCard : MethodName := ⟨RX6, "addCard", "(II)I"⟩
abbrev cX6_told : ByteArray := prog_1_method_50_code
def yX6_told : MethodName := ⟨RX6, "told", "()LButlerWeather$House;"⟩
abbrev cX6_noFrostWithout : ByteArray := prog_1_method_51_code
def yX6_noFrostWithout : MethodName := ⟨RX6, "noFrostWithout", "(I)Z"⟩
abbrev cX6_cardsToBurn : ByteArray := prog_1_method_52_code
def yX6_cardsToBurn : MethodName := ⟨RX6, "cardsToBurn", "(LButlerWeather$House;)I"⟩
abbrev cX6_sortsThatFit : ByteArray := prog_1_method_53_code
def yX6_sortsThatFit : MethodName := ⟨RX6, "sortsThatFit", "(I)I"⟩
abbrev cX6_waitsThatFit : ByteArray := prog_1_method_54_code
def yX6_waitsThatFit : MethodName := ⟨RX6, "waitsThatFit", "(I)I"⟩
abbrev cX6_inviteByLots : ByteArray := prog_1_method_55_code
def yX6_inviteByLots : MethodName := ⟨RX6, "inviteByLots", "(II)V"⟩
abbrev cX6_nextSeed : ByteArray := prog_1_method_56_code
def yX6_nextSeed : MethodName := ⟨RX6, "nextSeed", "(I)I"⟩
abbrev cX6_upperBits : ByteArray := prog_1_method_57_code
def yX6_upperBits : MethodName := ⟨RX6, "upperBits", "(I)I"⟩
def RX7 : String := "ButlerWeatherModel"
def TX7 : u_T := fun k => match k with
  | 0 => ("ButlerWeatherModel", "typed", "[I", true)
  | 1 => ("ButlerWeatherModel", "texts", "[I", true)
  | 2 => ("ButlerWeatherModel", "callers", "I", false)
  | 3 => ("ButlerWeatherModel", "sorts", "[I", true)
  | 4 => ("ButlerWeatherModel", "waits", "[I", true)
  | 5 => ("ButlerWeatherModel", "comes", "[I", true)
  | 6 => ("ButlerWeatherModel", "forces", "[I", true)
  | 7 => ("ButlerWeatherModel", "men", "I", false)
  | 8 => ("ButlerWeatherModel", "juniors", "[I", true)
  | 9 => ("ButlerWeatherModel", "froms", "[I", true)
  | 10 => ("ButlerWeatherModel", "untils", "[I", true)
  | 11 => ("ButlerWeatherModel", "cards", "I", false)
  | 12 => ("ButlerWeatherModel", "cardDay", "[I", true)
  | 13 => ("ButlerWeatherModel", "cardFor", "[I", true)
  | 14 => ("ButlerWeatherModel", "cardsNow", "I", false)
  | 15 => ("ButlerWeatherModel", "dayNow", "[I", true)
  | 16 => ("ButlerWeatherModel", "forNow", "[I", true)
  | 17 => ("ButlerWeatherModel", "notCards", "I", false)
  | 18 => ("ButlerWeatherModel", "is", "[I", true)
  | 19 => ("ButlerWeatherModel", "since", "[I", true)
  | 20 => ("ButlerWeatherModel", "names", "[I", true)
  | 21 => ("ButlerWeatherModel", "firstDay", "I", false)
  | 22 => ("ButlerWeatherModel", "firstWho", "I", false)
  | 23 => ("ButlerWeatherModel", "isAt", "[I", true)
  | 24 => ("ButlerWeatherModel", "doorAt", "[I", true)
  | 25 => ("ButlerWeatherModel", "hatsAt", "[I", true)
  | 26 => ("ButlerWeatherModel", "warmAt", "[I", true)
  | 27 => ("ButlerWeatherModel", "planRow", "[I", true)
  | 28 => ("ButlerWeatherModel", "felt", "I", false)
  | 29 => ("ButlerWeatherModel", "feltDay", "[I", true)
  | 30 => ("ButlerWeatherModel", "feltWarm", "[I", true)
  | 31 => ("ButlerWeatherModel", "warmBy", "[I", true)
  | 32 => ("ButlerWeatherModel", "isThere", "[Z", true)
  | 33 => ("ButlerWeatherModel", "forms", "[I", true)
  | 34 => ("ButlerWeatherModel", "sizes", "[I", true)
  | 35 => ("ButlerWeatherModel", "items", "[I", true)
  | 36 => ("ButlerWeatherModel", "moved", "[I", true)
  | _ => ("ButlerWeatherModel", "finding", "I", false)
def tyX7 : Nat → FieldType := fun k => match k with
  | 0 => .array .int
  | 1 => .array .int
  | 2 => .int
  | 3 => .array .int
  | 4 => .array .int
  | 5 => .array .int
  | 6 => .array .int
  | 7 => .int
  | 8 => .array .int
  | 9 => .array .int
  | 10 => .array .int
  | 11 => .int
  | 12 => .array .int
  | 13 => .array .int
  | 14 => .int
  | 15 => .array .int
  | 16 => .array .int
  | 17 => .int
  | 18 => .array .int
  | 19 => .array .int
  | 20 => .array .int
  | 21 => .int
  | 22 => .int
  | 23 => .array .int
  | 24 => .array .int
  | 25 => .array .int
  | 26 => .array .int
  | 27 => .array .int
  | 28 => .int
  | 29 => .array .int
  | 30 => .array .int
  | 31 => .array .int
  | 32 => .array .boolean
  | 33 => .array .int
  | 34 => .array .int
  | 35 => .array .int
  | 36 => .array .int
  | _ => .int
abbrev wsX70 : List Cond := u_ws RX7 TX7 38
theorem nmX7 : ∀ a, a < 38 → ∀ b, b < 38 → a ≠ b → (TX7 a).2.1 ≠ (TX7 b).2.1 := by decide +kernel
theorem tyX7_ok : ∀ k, k < 38 → parseFieldDescriptor (TX7 k).2.2.1 = some (tyX7 k) := by decide +kernel
abbrev cX7_init : ByteArray := prog_9_method_1_code
def yX7_init : MethodName := ⟨RX7, "<init>", "()V"⟩
abbrev cX7_in : ByteArray := prog_9_method_3_code
def yX7_in : MethodName := ⟨RX7, "in", "(III)Z"⟩
abbrev cX7_isIn : ByteArray := prog_9_method_4_code
def yX7_isIn : MethodName := ⟨RX7, "isIn", "(II)Z"⟩
abbrev cX7_no : ByteArray := prog_9_method_5_code
def yX7_no : MethodName := ⟨RX7, "no", "(I)J"⟩
abbrev cX7_lowest : ByteArray := prog_9_method_6_code
def yX7_lowest : MethodName := ⟨RX7, "lowest", "(JJI)J"⟩
abbrev cX7_isText : ByteArray := prog_9_method_7_code
def yX7_isText : MethodName := ⟨RX7, "isText", "(I)Z"⟩
abbrev cX7_isDay : ByteArray := prog_9_method_8_code
def yX7_isDay : MethodName := ⟨RX7, "isDay", "(I)Z"⟩
abbrev cX7_isTwo : ByteArray := prog_9_method_9_code
def yX7_isTwo : MethodName := ⟨RX7, "isTwo", "(I)Z"⟩
abbrev cX7_type : ByteArray := prog_9_method_10_code
def yX7_type : MethodName := ⟨RX7, "type", "(II)I"⟩
abbrev cX7_wipe : ByteArray := prog_9_method_11_code
def yX7_wipe : MethodName := ⟨RX7, "wipe", "(I)I"⟩
abbrev cX7_undo : ByteArray := prog_9_method_12_code
def yX7_undo : MethodName := ⟨RX7, "undo", "(I)I"⟩
abbrev cX7_byteAt : ByteArray := prog_9_method_13_code
def yX7_byteAt : MethodName := ⟨RX7, "byteAt", "(II)I"⟩
abbrev cX7_sortOf : ByteArray := prog_9_method_14_code
def yX7_sortOf : MethodName := ⟨RX7, "sortOf", "(I)I"⟩
abbrev cX7_readsCaller : ByteArray := prog_9_method_15_code
def yX7_readsCaller : MethodName := ⟨RX7, "readsCaller", "(II)I"⟩
abbrev cX7_readsMan : ByteArray := prog_9_method_16_code
def yX7_readsMan : MethodName := ⟨RX7, "readsMan", "(II)I"⟩
abbrev cX7_readsParts : ByteArray := prog_9_method_17_code
def yX7_readsParts : MethodName := ⟨RX7, "readsParts", "(I)I"⟩
abbrev cX7_faultOf : ByteArray := prog_9_method_18_code
def yX7_faultOf : MethodName := ⟨RX7, "faultOf", "(I)I"⟩
abbrev cX7_reads : ByteArray := prog_9_method_19_code
def yX7_reads : MethodName := ⟨RX7, "reads", "()V"⟩
abbrev cX7_fault : ByteArray := prog_9_method_20_code
def yX7_fault : MethodName := ⟨RX7, "fault", "(I)I"⟩
abbrev cX7_isCaller : ByteArray := prog_9_method_21_code
def yX7_isCaller : MethodName := ⟨RX7, "isCaller", "(I)Z"⟩
abbrev cX7_isMan : ByteArray := prog_9_method_22_code
def yX7_isMan : MethodName := ⟨RX7, "isMan", "(I)Z"⟩
abbrev cX7_callerOf : ByteArray := prog_9_method_23_code
def yX7_callerOf : MethodName := ⟨RX7, "callerOf", "(II)I"⟩
abbrev cX7_caller : ByteArray := prog_9_method_24_code
def yX7_caller : MethodName := ⟨RX7, "caller", "(II)I"⟩
abbrev cX7_manOf : ByteArray := prog_9_method_25_code
def yX7_manOf : MethodName := ⟨RX7, "manOf", "(II)I"⟩
abbrev cX7_man : ByteArray := prog_9_method_26_code
def yX7_man : MethodName := ⟨RX7, "man", "(II)I"⟩
abbrev cX7_card : ByteArray := prog_9_method_27_code
def yX7_card : MethodName := ⟨RX7, "card", "(II)I"⟩
abbrev cX7_back : ByteArray := prog_9_method_28_code
def yX7_back : MethodName := ⟨RX7, "back", "()I"⟩
abbrev cX7_read : ByteArray := prog_9_method_29_code
def yX7_read : MethodName := ⟨RX7, "read", "(I)I"⟩
abbrev cX7_asTold : ByteArray := prog_9_method_30_code
def yX7_asTold : MethodName := ⟨RX7, "asTold", "()V"⟩
abbrev cX7_letsIn : ByteArray := prog_9_method_31_code
def yX7_letsIn : MethodName := ⟨RX7, "letsIn", "(III)V"⟩
abbrev cX7_arrives : ByteArray := prog_9_method_32_code
def yX7_arrives : MethodName := ⟨RX7, "arrives", "(I)V"⟩
abbrev cX7_onDuty : ByteArray := prog_9_method_33_code
def yX7_onDuty : MethodName := ⟨RX7, "onDuty", "(I)I"⟩
abbrev cX7_hasCard : ByteArray := prog_9_method_34_code
def yX7_hasCard : MethodName := ⟨RX7, "hasCard", "(II)Z"⟩
abbrev cX7_opens : ByteArray := prog_9_method_35_code
def yX7_opens : MethodName := ⟨RX7, "opens", "(II)V"⟩
abbrev cX7_warms : ByteArray := prog_9_method_36_code
def yX7_warms : MethodName := ⟨RX7, "warms", "(I)I"⟩
abbrev cX7_goesBy : ByteArray := prog_9_method_37_code
def yX7_goesBy : MethodName := ⟨RX7, "goesBy", "(I)V"⟩
abbrev cX7_runs : ByteArray := prog_9_method_38_code
def yX7_runs : MethodName := ⟨RX7, "runs", "()V"⟩
abbrev cX7_runsTold : ByteArray := prog_9_method_39_code
def yX7_runsTold : MethodName := ⟨RX7, "runsTold", "()V"⟩
abbrev cX7_standsOf : ByteArray := prog_9_method_40_code
def yX7_standsOf : MethodName := ⟨RX7, "standsOf", "(II)I"⟩
abbrev cX7_stands : ByteArray := prog_9_method_41_code
def yX7_stands : MethodName := ⟨RX7, "stands", "(II)I"⟩
abbrev cX7_nameOf : ByteArray := prog_9_method_42_code
def yX7_nameOf : MethodName := ⟨RX7, "nameOf", "(I)I"⟩
abbrev cX7_name : ByteArray := prog_9_method_43_code
def yX7_name : MethodName := ⟨RX7, "name", "(I)I"⟩
abbrev cX7_doorOf : ByteArray := prog_9_method_44_code
def yX7_doorOf : MethodName := ⟨RX7, "doorOf", "(II)I"⟩
abbrev cX7_door : ByteArray := prog_9_method_45_code
def yX7_door : MethodName := ⟨RX7, "door", "(II)I"⟩
abbrev cX7_warmthOf : ByteArray := prog_9_method_46_code
def yX7_warmthOf : MethodName := ⟨RX7, "warmthOf", "(I)I"⟩
abbrev cX7_warmth : ByteArray := prog_9_method_47_code
def yX7_warmth : MethodName := ⟨RX7, "warmth", "(I)I"⟩
abbrev cX7_coldestOf : ByteArray := prog_9_method_48_code
def yX7_coldestOf : MethodName := ⟨RX7, "coldestOf", "()I"⟩
abbrev cX7_coldest : ByteArray := prog_9_method_49_code
def yX7_coldest : MethodName := ⟨RX7, "coldest", "()I"⟩
abbrev cX7_firstOf : ByteArray := prog_9_method_50_code
def yX7_firstOf : MethodName := ⟨RX7, "firstOf", "(I)I"⟩
abbrev cX7_first : ByteArray := prog_9_method_51_code
def yX7_first : MethodName := ⟨RX7, "first", "(I)I"⟩
abbrev cX7_sentNow : ByteArray := prog_9_method_52_code
def yX7_sentNow : MethodName := ⟨RX7, "sentNow", "()I"⟩
abbrev cX7_sentOf : ByteArray := prog_9_method_53_code
def yX7_sentOf : MethodName := ⟨RX7, "sentOf", "()I"⟩
abbrev cX7_sent : ByteArray := prog_9_method_54_code
def yX7_sent : MethodName := ⟨RX7, "sent", "()I"⟩
abbrev cX7_wrongOf : ByteArray := prog_9_method_55_code
def yX7_wrongOf : MethodName := ⟨RX7, "wrongOf", "()I"⟩
abbrev cX7_wrong : ByteArray := prog_9_method_56_code
def yX7_wrong : MethodName := ⟨RX7, "wrong", "()I"⟩
abbrev cX7_sumNow : ByteArray := prog_9_method_57_code
def yX7_sumNow : MethodName := ⟨RX7, "sumNow", "()I"⟩
abbrev cX7_sumOf : ByteArray := prog_9_method_58_code
def yX7_sumOf : MethodName := ⟨RX7, "sumOf", "()I"⟩
abbrev cX7_sum : ByteArray := prog_9_method_59_code
def yX7_sum : MethodName := ⟨RX7, "sum", "()I"⟩
abbrev cX7_insNow : ByteArray := prog_9_method_60_code
def yX7_insNow : MethodName := ⟨RX7, "insNow", "()I"⟩
abbrev cX7_leaveOf : ByteArray := prog_9_method_61_code
def yX7_leaveOf : MethodName := ⟨RX7, "leaveOf", "(II)I"⟩
abbrev cX7_leave : ByteArray := prog_9_method_62_code
def yX7_leave : MethodName := ⟨RX7, "leave", "(II)I"⟩
abbrev cX7_beginOf : ByteArray := prog_9_method_63_code
def yX7_beginOf : MethodName := ⟨RX7, "beginOf", "(II)I"⟩
abbrev cX7_begin : ByteArray := prog_9_method_64_code
def yX7_begin : MethodName := ⟨RX7, "begin", "(II)I"⟩
abbrev cX7_waitOf : ByteArray := prog_9_method_65_code
def yX7_waitOf : MethodName := ⟨RX7, "waitOf", "(I)I"⟩
abbrev cX7_patience : ByteArray := prog_9_method_66_code
def yX7_patience : MethodName := ⟨RX7, "patience", "(I)I"⟩
abbrev cX7_isBurnt : ByteArray := prog_9_method_67_code
def yX7_isBurnt : MethodName := ⟨RX7, "isBurnt", "(I)Z"⟩
abbrev cX7_burnBy : ByteArray := prog_9_method_68_code
def yX7_burnBy : MethodName := ⟨RX7, "burnBy", "()I"⟩
abbrev cX7_ofRow : ByteArray := prog_9_method_69_code
def yX7_ofRow : MethodName := ⟨RX7, "ofRow", "(II)I"⟩
abbrev cX7_burn : ByteArray := prog_9_method_70_code
def yX7_burn : MethodName := ⟨RX7, "burn", "(I)I"⟩
abbrev cX7_feel : ByteArray := prog_9_method_71_code
def yX7_feel : MethodName := ⟨RX7, "feel", "(II)I"⟩
abbrev cX7_forget : ByteArray := prog_9_method_72_code
def yX7_forget : MethodName := ⟨RX7, "forget", "()I"⟩
abbrev cX7_isFelt : ByteArray := prog_9_method_73_code
def yX7_isFelt : MethodName := ⟨RX7, "isFelt", "()Z"⟩
abbrev cX7_neverNow : ByteArray := prog_9_method_74_code
def yX7_neverNow : MethodName := ⟨RX7, "neverNow", "()I"⟩
abbrev cX7_never : ByteArray := prog_9_method_75_code
def yX7_never : MethodName := ⟨RX7, "never", "()I"⟩
abbrev cX7_sortsBy : ByteArray := prog_9_method_76_code
def yX7_sortsBy : MethodName := ⟨RX7, "sortsBy", "(I)I"⟩
abbrev cX7_longBy : ByteArray := prog_9_method_77_code
def yX7_longBy : MethodName := ⟨RX7, "longBy", "(I)I"⟩
abbrev cX7_was : ByteArray := prog_9_method_78_code
def yX7_was : MethodName := ⟨RX7, "was", "(II)I"⟩
abbrev cX7_askOf : ByteArray := prog_9_method_79_code
def yX7_askOf : MethodName := ⟨RX7, "askOf", "(I)I"⟩
abbrev cX7_ask : ByteArray := prog_9_method_80_code
def yX7_ask : MethodName := ⟨RX7, "ask", "(I)I"⟩
abbrev cX7_chanceOf : ByteArray := prog_9_method_81_code
def yX7_chanceOf : MethodName := ⟨RX7, "chanceOf", "(III)J"⟩
abbrev cX7_chance : ByteArray := prog_9_method_82_code
def yX7_chance : MethodName := ⟨RX7, "chance", "(III)J"⟩
abbrev cX7_yearsOf : ByteArray := prog_9_method_83_code
def yX7_yearsOf : MethodName := ⟨RX7, "yearsOf", "(III)I"⟩
abbrev cX7_years : ByteArray := prog_9_method_84_code
def yX7_years : MethodName := ⟨RX7, "years", "(III)I"⟩
abbrev cX7_meets : ByteArray := prog_9_method_85_code
def yX7_meets : MethodName := ⟨RX7, "meets", "(I)I"⟩
abbrev cX7_isSheet : ByteArray := prog_9_method_86_code
def yX7_isSheet : MethodName := ⟨RX7, "isSheet", "(I)Z"⟩
abbrev cX7_sheet : ByteArray := prog_9_method_87_code
def yX7_sheet : MethodName := ⟨RX7, "sheet", "(III)I"⟩
abbrev cX7_lose : ByteArray := prog_9_method_88_code
def yX7_lose : MethodName := ⟨RX7, "lose", "(I)I"⟩
abbrev cX7_lacks : ByteArray := prog_9_method_89_code
def yX7_lacks : MethodName := ⟨RX7, "lacks", "(III)I"⟩
abbrev cX7_keep : ByteArray := prog_9_method_90_code
def yX7_keep : MethodName := ⟨RX7, "keep", "(III)V"⟩
abbrev cX7_put : ByteArray := prog_9_method_91_code
def yX7_put : MethodName := ⟨RX7, "put", "(IIII)I"⟩
abbrev cX7_get : ByteArray := prog_9_method_92_code
def yX7_get : MethodName := ⟨RX7, "get", "(III)I"⟩
abbrev cX7_copy : ByteArray := prog_9_method_93_code
def yX7_copy : MethodName := ⟨RX7, "copy", "(IIIII)I"⟩
abbrev cX7_write : ByteArray := prog_9_method_94_code
def yX7_write : MethodName := ⟨RX7, "write", "(I)I"⟩
abbrev cX7_ones : ByteArray := prog_9_method_95_code
def yX7_ones : MethodName := ⟨RX7, "ones", "(I)I"⟩
abbrev cX7_tellOf : ByteArray := prog_9_method_96_code
def yX7_tellOf : MethodName := ⟨RX7, "tellOf", "(I)I"⟩
abbrev cX7_count : ByteArray := prog_9_method_97_code
def yX7_count : MethodName := ⟨RX7, "count", "(I)I"⟩
abbrev cX7_manDigest : ByteArray := prog_9_method_98_code
def yX7_manDigest : MethodName := ⟨RX7, "manDigest", "(JI)J"⟩
abbrev cX7_callerDigest : ByteArray := prog_9_method_99_code
def yX7_callerDigest : MethodName := ⟨RX7, "callerDigest", "(JI)J"⟩
abbrev cX7_digest : ByteArray := prog_9_method_100_code
def yX7_digest : MethodName := ⟨RX7, "digest", "()J"⟩
def RJ6 : String := "java/lang/Integer"
def TJ6 : u_T := fun k => match k with
  | _ => ("", "", "", false)
def tyJ6 : Nat → FieldType := fun k => match k with
  | _ => .int
abbrev wsJ60 : List Cond := u_ws RJ6 TJ6 0
theorem nmJ6 : ∀ a, a < 0 → ∀ b, b < 0 → a ≠ b → (TJ6 a).2.1 ≠ (TJ6 b).2.1 := by decide +kernel
theorem tyJ6_ok : ∀ k, k < 0 → parseFieldDescriptor (TJ6 k).2.2.1 = some (tyJ6 k) := by decide +kernel
abbrev cJ6_bitCount_0f7a4 : ByteArray := prog_10_method_49_code
def yJ6_bitCount_0f7a4 : MethodName := ⟨RJ6, "bitCount", "(I)I"⟩
def RJ9 : String := "java/lang/Math"
def TJ9 : u_T := fun k => match k with
  | _ => ("", "", "", false)
def tyJ9 : Nat → FieldType := fun k => match k with
  | _ => .int
abbrev wsJ90 : List Cond := u_ws RJ9 TJ9 0
theorem nmJ9 : ∀ a, a < 0 → ∀ b, b < 0 → a ≠ b → (TJ9 a).2.1 ≠ (TJ9 b).2.1 := by decide +kernel
theorem tyJ9_ok : ∀ k, k < 0 → parseFieldDescriptor (TJ9 k).2.2.1 = some (tyJ9 k) := by decide +kernel
abbrev cJ9_max_7cf53 : ByteArray := prog_11_method_65_code
def yJ9_max_7cf53 : MethodName := ⟨RJ9, "max", "(II)I"⟩
abbrev cJ9_min_7cf53 : ByteArray := prog_11_method_69_code
def yJ9_min_7cf53 : MethodName := ⟨RJ9, "min", "(II)I"⟩
def RJ10 : String := "java/lang/System"
def TJ10 : u_T := fun k => match k with
  | _ => ("", "", "", false)
def tyJ10 : Nat → FieldType := fun k => match k with
  | _ => .int
abbrev wsJ100 : List Cond := u_ws RJ10 TJ10 0
theorem nmJ10 : ∀ a, a < 0 → ∀ b, b < 0 → a ≠ b → (TJ10 a).2.1 ≠ (TJ10 b).2.1 := by decide +kernel
theorem tyJ10_ok : ∀ k, k < 0 → parseFieldDescriptor (TJ10 k).2.2.1 = some (tyJ10 k) := by decide +kernel
def RL : String := "ButlerWeatherLaw"
abbrev cL_law : ByteArray := code
def yL_law : MethodName := ⟨RL, "law", "([I)Z"⟩
abbrev vwCl : List vw_C := [(RX0, TX0, 3), (RX1, TX1, 3), (RX2, TX2, 14), (RX3, TX3, 3), (RX4, TX4, 3), (RX5, TX5, 4), (RX6, TX6, 9), (RX7, TX7, 38)]
