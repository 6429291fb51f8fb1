theorem xc_0 : Cond.castable (exN 0) (exN 0) ∈ xws := List.mem_filter.mpr ⟨List.mem_of_getElem? (i := 476) (by decide +kernel), rfl⟩
theorem xc_1 : Cond.castable (exN 1) (exN 1) ∈ xws := List.mem_filter.mpr ⟨List.mem_of_getElem? (i := 806) (by decide +kernel), rfl⟩
theorem cl_RL_8 : Cond.classLink RL 8 RX8 ∈ gws := gws_in 25 (by decide +kernel) rfl
theorem cl_RL_13 : Cond.classLink RL 13 (exN 0) ∈ gws := gws_in 469 (by decide +kernel) rfl
theorem cl_RL_18 : Cond.classLink RL 18 (exN 1) ∈ gws := gws_in 735 (by decide +kernel) rfl
theorem cl_RL_142 : Cond.classLink RL 142 RX9 ∈ gws := gws_in 1282 (by decide +kernel) rfl
theorem me_X8_town : Cond.code yX8_town cX8_town 4 (some .int)  ∈ gws ∧ Cond.initialized yX8_town.cls ∈ gws ∧ (yX8_town.cls ≠ "java/lang/invoke/MethodHandle" ∧ yX8_town.cls ≠ "java/lang/invoke/VarHandle") ∧ ∀ sig, parseMethodDescriptor yX8_town.desc = some sig → 1 = sig.parameters.length := ⟨gws_in 473 (by decide +kernel) rfl, gws_in 1 (by decide +kernel) rfl, by decide +kernel, fun sig h => by
  have e : (parseMethodDescriptor yX8_town.desc).map (fun s => s.parameters.length) = some 1 := by decide +kernel
  rw [h] at e; exact (Option.some.inj e).symm⟩
theorem vk_X8_town : VK yX8_town := ⟨gws_in 471 (by decide +kernel) rfl, gws_in 472 (by decide +kernel) rfl⟩
theorem lk_RL_7 : LK RL 7 yX8_town cX8_town 4 (some .int) 1 := ⟨gws_in 470 (by decide +kernel) rfl, me_X8_town⟩
theorem me_X8_count : Cond.code yX8_count cX8_count 2 (some .int)  ∈ gws ∧ Cond.initialized yX8_count.cls ∈ gws ∧ (yX8_count.cls ≠ "java/lang/invoke/MethodHandle" ∧ yX8_count.cls ≠ "java/lang/invoke/VarHandle") ∧ ∀ sig, parseMethodDescriptor yX8_count.desc = some sig → 1 = sig.parameters.length := ⟨gws_in 739 (by decide +kernel) rfl, gws_in 1 (by decide +kernel) rfl, by decide +kernel, fun sig h => by
  have e : (parseMethodDescriptor yX8_count.desc).map (fun s => s.parameters.length) = some 1 := by decide +kernel
  rw [h] at e; exact (Option.some.inj e).symm⟩
theorem vk_X8_count : VK yX8_count := ⟨gws_in 737 (by decide +kernel) rfl, gws_in 738 (by decide +kernel) rfl⟩
theorem lk_RL_15 : LK RL 15 yX8_count cX8_count 2 (some .int) 1 := ⟨gws_in 736 (by decide +kernel) rfl, me_X8_count⟩
theorem me_X8_house : Cond.code yX8_house cX8_house 3 (some .int)  ∈ gws ∧ Cond.initialized yX8_house.cls ∈ gws ∧ (yX8_house.cls ≠ "java/lang/invoke/MethodHandle" ∧ yX8_house.cls ≠ "java/lang/invoke/VarHandle") ∧ ∀ sig, parseMethodDescriptor yX8_house.desc = some sig → 2 = sig.parameters.length := ⟨gws_in 826 (by decide +kernel) rfl, gws_in 1 (by decide +kernel) rfl, by decide +kernel, fun sig h => by
  have e : (parseMethodDescriptor yX8_house.desc).map (fun s => s.parameters.length) = some 2 := by decide +kernel
  rw [h] at e; exact (Option.some.inj e).symm⟩
theorem vk_X8_house : VK yX8_house := ⟨gws_in 824 (by decide +kernel) rfl, gws_in 825 (by decide +kernel) rfl⟩
theorem lk_RL_20 : LK RL 20 yX8_house cX8_house 3 (some .int) 2 := ⟨gws_in 823 (by decide +kernel) rfl, me_X8_house⟩
theorem me_X8_person : Cond.code yX8_person cX8_person 3 (some .int)  ∈ gws ∧ Cond.initialized yX8_person.cls ∈ gws ∧ (yX8_person.cls ≠ "java/lang/invoke/MethodHandle" ∧ yX8_person.cls ≠ "java/lang/invoke/VarHandle") ∧ ∀ sig, parseMethodDescriptor yX8_person.desc = some sig → 2 = sig.parameters.length := ⟨gws_in 852 (by decide +kernel) rfl, gws_in 1 (by decide +kernel) rfl, by decide +kernel, fun sig h => by
  have e : (parseMethodDescriptor yX8_person.desc).map (fun s => s.parameters.length) = some 2 := by decide +kernel
  rw [h] at e; exact (Option.some.inj e).symm⟩
theorem vk_X8_person : VK yX8_person := ⟨gws_in 850 (by decide +kernel) rfl, gws_in 851 (by decide +kernel) rfl⟩
theorem lk_RL_24 : LK RL 24 yX8_person cX8_person 3 (some .int) 2 := ⟨gws_in 849 (by decide +kernel) rfl, me_X8_person⟩
theorem me_X8_eases : Cond.code yX8_eases cX8_eases 3 (some .int)  ∈ gws ∧ Cond.initialized yX8_eases.cls ∈ gws ∧ (yX8_eases.cls ≠ "java/lang/invoke/MethodHandle" ∧ yX8_eases.cls ≠ "java/lang/invoke/VarHandle") ∧ ∀ sig, parseMethodDescriptor yX8_eases.desc = some sig → 2 = sig.parameters.length := ⟨gws_in 865 (by decide +kernel) rfl, gws_in 1 (by decide +kernel) rfl, by decide +kernel, fun sig h => by
  have e : (parseMethodDescriptor yX8_eases.desc).map (fun s => s.parameters.length) = some 2 := by decide +kernel
  rw [h] at e; exact (Option.some.inj e).symm⟩
theorem vk_X8_eases : VK yX8_eases := ⟨gws_in 863 (by decide +kernel) rfl, gws_in 864 (by decide +kernel) rfl⟩
theorem lk_RL_27 : LK RL 27 yX8_eases cX8_eases 3 (some .int) 2 := ⟨gws_in 862 (by decide +kernel) rfl, me_X8_eases⟩
theorem me_X8_putIn : Cond.code yX8_putIn cX8_putIn 3 (some .int)  ∈ gws ∧ Cond.initialized yX8_putIn.cls ∈ gws ∧ (yX8_putIn.cls ≠ "java/lang/invoke/MethodHandle" ∧ yX8_putIn.cls ≠ "java/lang/invoke/VarHandle") ∧ ∀ sig, parseMethodDescriptor yX8_putIn.desc = some sig → 2 = sig.parameters.length := ⟨gws_in 873 (by decide +kernel) rfl, gws_in 1 (by decide +kernel) rfl, by decide +kernel, fun sig h => by
  have e : (parseMethodDescriptor yX8_putIn.desc).map (fun s => s.parameters.length) = some 2 := by decide +kernel
  rw [h] at e; exact (Option.some.inj e).symm⟩
theorem vk_X8_putIn : VK yX8_putIn := ⟨gws_in 871 (by decide +kernel) rfl, gws_in 872 (by decide +kernel) rfl⟩
theorem lk_RL_30 : LK RL 30 yX8_putIn cX8_putIn 3 (some .int) 2 := ⟨gws_in 870 (by decide +kernel) rfl, me_X8_putIn⟩
theorem me_X8_out : Cond.code yX8_out cX8_out 3 (some .int)  ∈ gws ∧ Cond.initialized yX8_out.cls ∈ gws ∧ (yX8_out.cls ≠ "java/lang/invoke/MethodHandle" ∧ yX8_out.cls ≠ "java/lang/invoke/VarHandle") ∧ ∀ sig, parseMethodDescriptor yX8_out.desc = some sig → 1 = sig.parameters.length := ⟨gws_in 886 (by decide +kernel) rfl, gws_in 1 (by decide +kernel) rfl, by decide +kernel, fun sig h => by
  have e : (parseMethodDescriptor yX8_out.desc).map (fun s => s.parameters.length) = some 1 := by decide +kernel
  rw [h] at e; exact (Option.some.inj e).symm⟩
theorem vk_X8_out : VK yX8_out := ⟨gws_in 884 (by decide +kernel) rfl, gws_in 885 (by decide +kernel) rfl⟩
theorem lk_RL_33 : LK RL 33 yX8_out cX8_out 3 (some .int) 1 := ⟨gws_in 883 (by decide +kernel) rfl, me_X8_out⟩
theorem me_X8_stuff : Cond.code yX8_stuff cX8_stuff 3 (some .int)  ∈ gws ∧ Cond.initialized yX8_stuff.cls ∈ gws ∧ (yX8_stuff.cls ≠ "java/lang/invoke/MethodHandle" ∧ yX8_stuff.cls ≠ "java/lang/invoke/VarHandle") ∧ ∀ sig, parseMethodDescriptor yX8_stuff.desc = some sig → 2 = sig.parameters.length := ⟨gws_in 894 (by decide +kernel) rfl, gws_in 1 (by decide +kernel) rfl, by decide +kernel, fun sig h => by
  have e : (parseMethodDescriptor yX8_stuff.desc).map (fun s => s.parameters.length) = some 2 := by decide +kernel
  rw [h] at e; exact (Option.some.inj e).symm⟩
theorem vk_X8_stuff : VK yX8_stuff := ⟨gws_in 892 (by decide +kernel) rfl, gws_in 893 (by decide +kernel) rfl⟩
theorem lk_RL_36 : LK RL 36 yX8_stuff cX8_stuff 3 (some .int) 2 := ⟨gws_in 891 (by decide +kernel) rfl, me_X8_stuff⟩
theorem me_X8_change : Cond.code yX8_change cX8_change 6 (some .boolean)  ∈ gws ∧ Cond.initialized yX8_change.cls ∈ gws ∧ (yX8_change.cls ≠ "java/lang/invoke/MethodHandle" ∧ yX8_change.cls ≠ "java/lang/invoke/VarHandle") ∧ ∀ sig, parseMethodDescriptor yX8_change.desc = some sig → 2 = sig.parameters.length := ⟨gws_in 901 (by decide +kernel) rfl, gws_in 1 (by decide +kernel) rfl, by decide +kernel, fun sig h => by
  have e : (parseMethodDescriptor yX8_change.desc).map (fun s => s.parameters.length) = some 2 := by decide +kernel
  rw [h] at e; exact (Option.some.inj e).symm⟩
theorem vk_X8_change : VK yX8_change := ⟨gws_in 899 (by decide +kernel) rfl, gws_in 900 (by decide +kernel) rfl⟩
theorem lk_RL_39 : LK RL 39 yX8_change cX8_change 6 (some .boolean) 2 := ⟨gws_in 898 (by decide +kernel) rfl, me_X8_change⟩
theorem me_X8_then : Cond.code yX8_then cX8_then 5 (some .int)  ∈ gws ∧ Cond.initialized yX8_then.cls ∈ gws ∧ (yX8_then.cls ≠ "java/lang/invoke/MethodHandle" ∧ yX8_then.cls ≠ "java/lang/invoke/VarHandle") ∧ ∀ sig, parseMethodDescriptor yX8_then.desc = some sig → 3 = sig.parameters.length := ⟨gws_in 916 (by decide +kernel) rfl, gws_in 1 (by decide +kernel) rfl, by decide +kernel, fun sig h => by
  have e : (parseMethodDescriptor yX8_then.desc).map (fun s => s.parameters.length) = some 3 := by decide +kernel
  rw [h] at e; exact (Option.some.inj e).symm⟩
theorem vk_X8_then : VK yX8_then := ⟨gws_in 914 (by decide +kernel) rfl, gws_in 915 (by decide +kernel) rfl⟩
theorem lk_RL_43 : LK RL 43 yX8_then cX8_then 5 (some .int) 3 := ⟨gws_in 913 (by decide +kernel) rfl, me_X8_then⟩
theorem me_X8_worn : Cond.code yX8_worn cX8_worn 3 (some .int)  ∈ gws ∧ Cond.initialized yX8_worn.cls ∈ gws ∧ (yX8_worn.cls ≠ "java/lang/invoke/MethodHandle" ∧ yX8_worn.cls ≠ "java/lang/invoke/VarHandle") ∧ ∀ sig, parseMethodDescriptor yX8_worn.desc = some sig → 2 = sig.parameters.length := ⟨gws_in 935 (by decide +kernel) rfl, gws_in 1 (by decide +kernel) rfl, by decide +kernel, fun sig h => by
  have e : (parseMethodDescriptor yX8_worn.desc).map (fun s => s.parameters.length) = some 2 := by decide +kernel
  rw [h] at e; exact (Option.some.inj e).symm⟩
theorem vk_X8_worn : VK yX8_worn := ⟨gws_in 933 (by decide +kernel) rfl, gws_in 934 (by decide +kernel) rfl⟩
theorem lk_RL_47 : LK RL 47 yX8_worn cX8_worn 3 (some .int) 2 := ⟨gws_in 932 (by decide +kernel) rfl, me_X8_worn⟩
theorem me_X8_burst : Cond.code yX8_burst cX8_burst 2 (some .int)  ∈ gws ∧ Cond.initialized yX8_burst.cls ∈ gws ∧ (yX8_burst.cls ≠ "java/lang/invoke/MethodHandle" ∧ yX8_burst.cls ≠ "java/lang/invoke/VarHandle") ∧ ∀ sig, parseMethodDescriptor yX8_burst.desc = some sig → 1 = sig.parameters.length := ⟨gws_in 942 (by decide +kernel) rfl, gws_in 1 (by decide +kernel) rfl, by decide +kernel, fun sig h => by
  have e : (parseMethodDescriptor yX8_burst.desc).map (fun s => s.parameters.length) = some 1 := by decide +kernel
  rw [h] at e; exact (Option.some.inj e).symm⟩
theorem vk_X8_burst : VK yX8_burst := ⟨gws_in 940 (by decide +kernel) rfl, gws_in 941 (by decide +kernel) rfl⟩
theorem lk_RL_50 : LK RL 50 yX8_burst cX8_burst 2 (some .int) 1 := ⟨gws_in 939 (by decide +kernel) rfl, me_X8_burst⟩
theorem me_X8_wriggles : Cond.code yX8_wriggles cX8_wriggles 3 (some .int)  ∈ gws ∧ Cond.initialized yX8_wriggles.cls ∈ gws ∧ (yX8_wriggles.cls ≠ "java/lang/invoke/MethodHandle" ∧ yX8_wriggles.cls ≠ "java/lang/invoke/VarHandle") ∧ ∀ sig, parseMethodDescriptor yX8_wriggles.desc = some sig → 1 = sig.parameters.length := ⟨gws_in 957 (by decide +kernel) rfl, gws_in 1 (by decide +kernel) rfl, by decide +kernel, fun sig h => by
  have e : (parseMethodDescriptor yX8_wriggles.desc).map (fun s => s.parameters.length) = some 1 := by decide +kernel
  rw [h] at e; exact (Option.some.inj e).symm⟩
theorem vk_X8_wriggles : VK yX8_wriggles := ⟨gws_in 955 (by decide +kernel) rfl, gws_in 956 (by decide +kernel) rfl⟩
theorem lk_RL_53 : LK RL 53 yX8_wriggles cX8_wriggles 3 (some .int) 1 := ⟨gws_in 954 (by decide +kernel) rfl, me_X8_wriggles⟩
theorem me_X8_barefoot : Cond.code yX8_barefoot cX8_barefoot 2 (some .int)  ∈ gws ∧ Cond.initialized yX8_barefoot.cls ∈ gws ∧ (yX8_barefoot.cls ≠ "java/lang/invoke/MethodHandle" ∧ yX8_barefoot.cls ≠ "java/lang/invoke/VarHandle") ∧ ∀ sig, parseMethodDescriptor yX8_barefoot.desc = some sig → 1 = sig.parameters.length := ⟨gws_in 964 (by decide +kernel) rfl, gws_in 1 (by decide +kernel) rfl, by decide +kernel, fun sig h => by
  have e : (parseMethodDescriptor yX8_barefoot.desc).map (fun s => s.parameters.length) = some 1 := by decide +kernel
  rw [h] at e; exact (Option.some.inj e).symm⟩
theorem vk_X8_barefoot : VK yX8_barefoot := ⟨gws_in 962 (by decide +kernel) rfl, gws_in 963 (by decide +kernel) rfl⟩
theorem lk_RL_56 : LK RL 56 yX8_barefoot cX8_barefoot 2 (some .int) 1 := ⟨gws_in 961 (by decide +kernel) rfl, me_X8_barefoot⟩
theorem me_X8_last : Cond.code yX8_last cX8_last 7 (some .int)  ∈ gws ∧ Cond.initialized yX8_last.cls ∈ gws ∧ (yX8_last.cls ≠ "java/lang/invoke/MethodHandle" ∧ yX8_last.cls ≠ "java/lang/invoke/VarHandle") ∧ ∀ sig, parseMethodDescriptor yX8_last.desc = some sig → 1 = sig.parameters.length := ⟨gws_in 971 (by decide +kernel) rfl, gws_in 1 (by decide +kernel) rfl, by decide +kernel, fun sig h => by
  have e : (parseMethodDescriptor yX8_last.desc).map (fun s => s.parameters.length) = some 1 := by decide +kernel
  rw [h] at e; exact (Option.some.inj e).symm⟩
theorem vk_X8_last : VK yX8_last := ⟨gws_in 969 (by decide +kernel) rfl, gws_in 970 (by decide +kernel) rfl⟩
theorem lk_RL_59 : LK RL 59 yX8_last cX8_last 7 (some .int) 1 := ⟨gws_in 968 (by decide +kernel) rfl, me_X8_last⟩
theorem me_X8_goes : Cond.code yX8_goes cX8_goes 4 (some .int)  ∈ gws ∧ Cond.initialized yX8_goes.cls ∈ gws ∧ (yX8_goes.cls ≠ "java/lang/invoke/MethodHandle" ∧ yX8_goes.cls ≠ "java/lang/invoke/VarHandle") ∧ ∀ sig, parseMethodDescriptor yX8_goes.desc = some sig → 1 = sig.parameters.length := ⟨gws_in 981 (by decide +kernel) rfl, gws_in 1 (by decide +kernel) rfl, by decide +kernel, fun sig h => by
  have e : (parseMethodDescriptor yX8_goes.desc).map (fun s => s.parameters.length) = some 1 := by decide +kernel
  rw [h] at e; exact (Option.some.inj e).symm⟩
theorem vk_X8_goes : VK yX8_goes := ⟨gws_in 979 (by decide +kernel) rfl, gws_in 980 (by decide +kernel) rfl⟩
theorem lk_RL_62 : LK RL 62 yX8_goes cX8_goes 4 (some .int) 1 := ⟨gws_in 978 (by decide +kernel) rfl, me_X8_goes⟩
theorem me_X8_match : Cond.code yX8_match cX8_match 2 (some .int)  ∈ gws ∧ Cond.initialized yX8_match.cls ∈ gws ∧ (yX8_match.cls ≠ "java/lang/invoke/MethodHandle" ∧ yX8_match.cls ≠ "java/lang/invoke/VarHandle") ∧ ∀ sig, parseMethodDescriptor yX8_match.desc = some sig → 1 = sig.parameters.length := ⟨gws_in 988 (by decide +kernel) rfl, gws_in 1 (by decide +kernel) rfl, by decide +kernel, fun sig h => by
  have e : (parseMethodDescriptor yX8_match.desc).map (fun s => s.parameters.length) = some 1 := by decide +kernel
  rw [h] at e; exact (Option.some.inj e).symm⟩
theorem vk_X8_match : VK yX8_match := ⟨gws_in 986 (by decide +kernel) rfl, gws_in 987 (by decide +kernel) rfl⟩
theorem lk_RL_65 : LK RL 65 yX8_match cX8_match 2 (some .int) 1 := ⟨gws_in 985 (by decide +kernel) rfl, me_X8_match⟩
theorem me_X8_matched : Cond.code yX8_matched cX8_matched 2 (some .int)  ∈ gws ∧ Cond.initialized yX8_matched.cls ∈ gws ∧ (yX8_matched.cls ≠ "java/lang/invoke/MethodHandle" ∧ yX8_matched.cls ≠ "java/lang/invoke/VarHandle") ∧ ∀ sig, parseMethodDescriptor yX8_matched.desc = some sig → 1 = sig.parameters.length := ⟨gws_in 999 (by decide +kernel) rfl, gws_in 1 (by decide +kernel) rfl, by decide +kernel, fun sig h => by
  have e : (parseMethodDescriptor yX8_matched.desc).map (fun s => s.parameters.length) = some 1 := by decide +kernel
  rw [h] at e; exact (Option.some.inj e).symm⟩
theorem vk_X8_matched : VK yX8_matched := ⟨gws_in 997 (by decide +kernel) rfl, gws_in 998 (by decide +kernel) rfl⟩
theorem lk_RL_68 : LK RL 68 yX8_matched cX8_matched 2 (some .int) 1 := ⟨gws_in 996 (by decide +kernel) rfl, me_X8_matched⟩
theorem me_X8_trade : Cond.code yX8_trade cX8_trade 2 (some .int)  ∈ gws ∧ Cond.initialized yX8_trade.cls ∈ gws ∧ (yX8_trade.cls ≠ "java/lang/invoke/MethodHandle" ∧ yX8_trade.cls ≠ "java/lang/invoke/VarHandle") ∧ ∀ sig, parseMethodDescriptor yX8_trade.desc = some sig → 1 = sig.parameters.length := ⟨gws_in 1010 (by decide +kernel) rfl, gws_in 1 (by decide +kernel) rfl, by decide +kernel, fun sig h => by
  have e : (parseMethodDescriptor yX8_trade.desc).map (fun s => s.parameters.length) = some 1 := by decide +kernel
  rw [h] at e; exact (Option.some.inj e).symm⟩
theorem vk_X8_trade : VK yX8_trade := ⟨gws_in 1008 (by decide +kernel) rfl, gws_in 1009 (by decide +kernel) rfl⟩
theorem lk_RL_71 : LK RL 71 yX8_trade cX8_trade 2 (some .int) 1 := ⟨gws_in 1007 (by decide +kernel) rfl, me_X8_trade⟩
theorem me_X8_toStuff : Cond.code yX8_toStuff cX8_toStuff 4 (some .int)  ∈ gws ∧ Cond.initialized yX8_toStuff.cls ∈ gws ∧ (yX8_toStuff.cls ≠ "java/lang/invoke/MethodHandle" ∧ yX8_toStuff.cls ≠ "java/lang/invoke/VarHandle") ∧ ∀ sig, parseMethodDescriptor yX8_toStuff.desc = some sig → 2 = sig.parameters.length := ⟨gws_in 1038 (by decide +kernel) rfl, gws_in 1 (by decide +kernel) rfl, by decide +kernel, fun sig h => by
  have e : (parseMethodDescriptor yX8_toStuff.desc).map (fun s => s.parameters.length) = some 2 := by decide +kernel
  rw [h] at e; exact (Option.some.inj e).symm⟩
theorem vk_X8_toStuff : VK yX8_toStuff := ⟨gws_in 1036 (by decide +kernel) rfl, gws_in 1037 (by decide +kernel) rfl⟩
theorem lk_RL_74 : LK RL 74 yX8_toStuff cX8_toStuff 4 (some .int) 2 := ⟨gws_in 1035 (by decide +kernel) rfl, me_X8_toStuff⟩
theorem me_X8_toWait : Cond.code yX8_toWait cX8_toWait 4 (some .int)  ∈ gws ∧ Cond.initialized yX8_toWait.cls ∈ gws ∧ (yX8_toWait.cls ≠ "java/lang/invoke/MethodHandle" ∧ yX8_toWait.cls ≠ "java/lang/invoke/VarHandle") ∧ ∀ sig, parseMethodDescriptor yX8_toWait.desc = some sig → 2 = sig.parameters.length := ⟨gws_in 1045 (by decide +kernel) rfl, gws_in 1 (by decide +kernel) rfl, by decide +kernel, fun sig h => by
  have e : (parseMethodDescriptor yX8_toWait.desc).map (fun s => s.parameters.length) = some 2 := by decide +kernel
  rw [h] at e; exact (Option.some.inj e).symm⟩
theorem vk_X8_toWait : VK yX8_toWait := ⟨gws_in 1043 (by decide +kernel) rfl, gws_in 1044 (by decide +kernel) rfl⟩
theorem lk_RL_77 : LK RL 77 yX8_toWait cX8_toWait 4 (some .int) 2 := ⟨gws_in 1042 (by decide +kernel) rfl, me_X8_toWait⟩
theorem me_X8_round : Cond.code yX8_round cX8_round 7 (some .int)  ∈ gws ∧ Cond.initialized yX8_round.cls ∈ gws ∧ (yX8_round.cls ≠ "java/lang/invoke/MethodHandle" ∧ yX8_round.cls ≠ "java/lang/invoke/VarHandle") ∧ ∀ sig, parseMethodDescriptor yX8_round.desc = some sig → 1 = sig.parameters.length := ⟨gws_in 1052 (by decide +kernel) rfl, gws_in 1 (by decide +kernel) rfl, by decide +kernel, fun sig h => by
  have e : (parseMethodDescriptor yX8_round.desc).map (fun s => s.parameters.length) = some 1 := by decide +kernel
  rw [h] at e; exact (Option.some.inj e).symm⟩
theorem vk_X8_round : VK yX8_round := ⟨gws_in 1050 (by decide +kernel) rfl, gws_in 1051 (by decide +kernel) rfl⟩
theorem lk_RL_80 : LK RL 80 yX8_round cX8_round 7 (some .int) 1 := ⟨gws_in 1049 (by decide +kernel) rfl, me_X8_round⟩
theorem me_X8_see : Cond.code yX8_see cX8_see 5 (some .int)  ∈ gws ∧ Cond.initialized yX8_see.cls ∈ gws ∧ (yX8_see.cls ≠ "java/lang/invoke/MethodHandle" ∧ yX8_see.cls ≠ "java/lang/invoke/VarHandle") ∧ ∀ sig, parseMethodDescriptor yX8_see.desc = some sig → 3 = sig.parameters.length := ⟨gws_in 1061 (by decide +kernel) rfl, gws_in 1 (by decide +kernel) rfl, by decide +kernel, fun sig h => by
  have e : (parseMethodDescriptor yX8_see.desc).map (fun s => s.parameters.length) = some 3 := by decide +kernel
  rw [h] at e; exact (Option.some.inj e).symm⟩
theorem vk_X8_see : VK yX8_see := ⟨gws_in 1059 (by decide +kernel) rfl, gws_in 1060 (by decide +kernel) rfl⟩
theorem lk_RL_83 : LK RL 83 yX8_see cX8_see 5 (some .int) 3 := ⟨gws_in 1058 (by decide +kernel) rfl, me_X8_see⟩
theorem me_X8_large : Cond.code yX8_large cX8_large 5 (some .int)  ∈ gws ∧ Cond.initialized yX8_large.cls ∈ gws ∧ (yX8_large.cls ≠ "java/lang/invoke/MethodHandle" ∧ yX8_large.cls ≠ "java/lang/invoke/VarHandle") ∧ ∀ sig, parseMethodDescriptor yX8_large.desc = some sig → 1 = sig.parameters.length := ⟨gws_in 1072 (by decide +kernel) rfl, gws_in 1 (by decide +kernel) rfl, by decide +kernel, fun sig h => by
  have e : (parseMethodDescriptor yX8_large.desc).map (fun s => s.parameters.length) = some 1 := by decide +kernel
  rw [h] at e; exact (Option.some.inj e).symm⟩
theorem vk_X8_large : VK yX8_large := ⟨gws_in 1070 (by decide +kernel) rfl, gws_in 1071 (by decide +kernel) rfl⟩
theorem lk_RL_86 : LK RL 86 yX8_large cX8_large 5 (some .int) 1 := ⟨gws_in 1069 (by decide +kernel) rfl, me_X8_large⟩
theorem me_X8_next : Cond.code yX8_next cX8_next 6 (some .int)  ∈ gws ∧ Cond.initialized yX8_next.cls ∈ gws ∧ (yX8_next.cls ≠ "java/lang/invoke/MethodHandle" ∧ yX8_next.cls ≠ "java/lang/invoke/VarHandle") ∧ ∀ sig, parseMethodDescriptor yX8_next.desc = some sig → 1 = sig.parameters.length := ⟨gws_in 1117 (by decide +kernel) rfl, gws_in 1 (by decide +kernel) rfl, by decide +kernel, fun sig h => by
  have e : (parseMethodDescriptor yX8_next.desc).map (fun s => s.parameters.length) = some 1 := by decide +kernel
  rw [h] at e; exact (Option.some.inj e).symm⟩
theorem vk_X8_next : VK yX8_next := ⟨gws_in 1115 (by decide +kernel) rfl, gws_in 1116 (by decide +kernel) rfl⟩
theorem lk_RL_89 : LK RL 89 yX8_next cX8_next 6 (some .int) 1 := ⟨gws_in 1114 (by decide +kernel) rfl, me_X8_next⟩
theorem me_X8_byDamp : Cond.code yX8_byDamp cX8_byDamp 6 (some .int)  ∈ gws ∧ Cond.initialized yX8_byDamp.cls ∈ gws ∧ (yX8_byDamp.cls ≠ "java/lang/invoke/MethodHandle" ∧ yX8_byDamp.cls ≠ "java/lang/invoke/VarHandle") ∧ ∀ sig, parseMethodDescriptor yX8_byDamp.desc = some sig → 3 = sig.parameters.length := ⟨gws_in 1132 (by decide +kernel) rfl, gws_in 1 (by decide +kernel) rfl, by decide +kernel, fun sig h => by
  have e : (parseMethodDescriptor yX8_byDamp.desc).map (fun s => s.parameters.length) = some 3 := by decide +kernel
  rw [h] at e; exact (Option.some.inj e).symm⟩
theorem vk_X8_byDamp : VK yX8_byDamp := ⟨gws_in 1130 (by decide +kernel) rfl, gws_in 1131 (by decide +kernel) rfl⟩
theorem lk_RL_92 : LK RL 92 yX8_byDamp cX8_byDamp 6 (some .int) 3 := ⟨gws_in 1129 (by decide +kernel) rfl, me_X8_byDamp⟩
theorem me_X8_game : Cond.code yX8_game cX8_game 10 (some .int)  ∈ gws ∧ Cond.initialized yX8_game.cls ∈ gws ∧ (yX8_game.cls ≠ "java/lang/invoke/MethodHandle" ∧ yX8_game.cls ≠ "java/lang/invoke/VarHandle") ∧ ∀ sig, parseMethodDescriptor yX8_game.desc = some sig → 4 = sig.parameters.length := ⟨gws_in 1147 (by decide +kernel) rfl, gws_in 1 (by decide +kernel) rfl, by decide +kernel, fun sig h => by
  have e : (parseMethodDescriptor yX8_game.desc).map (fun s => s.parameters.length) = some 4 := by decide +kernel
  rw [h] at e; exact (Option.some.inj e).symm⟩
theorem vk_X8_game : VK yX8_game := ⟨gws_in 1145 (by decide +kernel) rfl, gws_in 1146 (by decide +kernel) rfl⟩
theorem lk_RL_95 : LK RL 95 yX8_game cX8_game 10 (some .int) 4 := ⟨gws_in 1144 (by decide +kernel) rfl, me_X8_game⟩
theorem me_X8_years : Cond.code yX8_years cX8_years 8 (some .int)  ∈ gws ∧ Cond.initialized yX8_years.cls ∈ gws ∧ (yX8_years.cls ≠ "java/lang/invoke/MethodHandle" ∧ yX8_years.cls ≠ "java/lang/invoke/VarHandle") ∧ ∀ sig, parseMethodDescriptor yX8_years.desc = some sig → 3 = sig.parameters.length := ⟨gws_in 1167 (by decide +kernel) rfl, gws_in 1 (by decide +kernel) rfl, by decide +kernel, fun sig h => by
  have e : (parseMethodDescriptor yX8_years.desc).map (fun s => s.parameters.length) = some 3 := by decide +kernel
  rw [h] at e; exact (Option.some.inj e).symm⟩
theorem vk_X8_years : VK yX8_years := ⟨gws_in 1165 (by decide +kernel) rfl, gws_in 1166 (by decide +kernel) rfl⟩
theorem lk_RL_99 : LK RL 99 yX8_years cX8_years 8 (some .int) 3 := ⟨gws_in 1164 (by decide +kernel) rfl, me_X8_years⟩
theorem me_X8_heirs : Cond.code yX8_heirs cX8_heirs 4 (some .int)  ∈ gws ∧ Cond.initialized yX8_heirs.cls ∈ gws ∧ (yX8_heirs.cls ≠ "java/lang/invoke/MethodHandle" ∧ yX8_heirs.cls ≠ "java/lang/invoke/VarHandle") ∧ ∀ sig, parseMethodDescriptor yX8_heirs.desc = some sig → 1 = sig.parameters.length := ⟨gws_in 1191 (by decide +kernel) rfl, gws_in 1 (by decide +kernel) rfl, by decide +kernel, fun sig h => by
  have e : (parseMethodDescriptor yX8_heirs.desc).map (fun s => s.parameters.length) = some 1 := by decide +kernel
  rw [h] at e; exact (Option.some.inj e).symm⟩
theorem vk_X8_heirs : VK yX8_heirs := ⟨gws_in 1189 (by decide +kernel) rfl, gws_in 1190 (by decide +kernel) rfl⟩
theorem lk_RL_102 : LK RL 102 yX8_heirs cX8_heirs 4 (some .int) 1 := ⟨gws_in 1188 (by decide +kernel) rfl, me_X8_heirs⟩
theorem me_X8_toGrow : Cond.code yX8_toGrow cX8_toGrow 4 (some .int)  ∈ gws ∧ Cond.initialized yX8_toGrow.cls ∈ gws ∧ (yX8_toGrow.cls ≠ "java/lang/invoke/MethodHandle" ∧ yX8_toGrow.cls ≠ "java/lang/invoke/VarHandle") ∧ ∀ sig, parseMethodDescriptor yX8_toGrow.desc = some sig → 2 = sig.parameters.length := ⟨gws_in 1198 (by decide +kernel) rfl, gws_in 1 (by decide +kernel) rfl, by decide +kernel, fun sig h => by
  have e : (parseMethodDescriptor yX8_toGrow.desc).map (fun s => s.parameters.length) = some 2 := by decide +kernel
  rw [h] at e; exact (Option.some.inj e).symm⟩
theorem vk_X8_toGrow : VK yX8_toGrow := ⟨gws_in 1196 (by decide +kernel) rfl, gws_in 1197 (by decide +kernel) rfl⟩
theorem lk_RL_105 : LK RL 105 yX8_toGrow cX8_toGrow 4 (some .int) 2 := ⟨gws_in 1195 (by decide +kernel) rfl, me_X8_toGrow⟩
theorem me_X8_paid : Cond.code yX8_paid cX8_paid 2 (some .int)  ∈ gws ∧ Cond.initialized yX8_paid.cls ∈ gws ∧ (yX8_paid.cls ≠ "java/lang/invoke/MethodHandle" ∧ yX8_paid.cls ≠ "java/lang/invoke/VarHandle") ∧ ∀ sig, parseMethodDescriptor yX8_paid.desc = some sig → 1 = sig.parameters.length := ⟨gws_in 1206 (by decide +kernel) rfl, gws_in 1 (by decide +kernel) rfl, by decide +kernel, fun sig h => by
  have e : (parseMethodDescriptor yX8_paid.desc).map (fun s => s.parameters.length) = some 1 := by decide +kernel
  rw [h] at e; exact (Option.some.inj e).symm⟩
theorem vk_X8_paid : VK yX8_paid := ⟨gws_in 1204 (by decide +kernel) rfl, gws_in 1205 (by decide +kernel) rfl⟩
theorem lk_RL_108 : LK RL 108 yX8_paid cX8_paid 2 (some .int) 1 := ⟨gws_in 1203 (by decide +kernel) rfl, me_X8_paid⟩
theorem me_X8_wornest : Cond.code yX8_wornest cX8_wornest 2 (some .int)  ∈ gws ∧ Cond.initialized yX8_wornest.cls ∈ gws ∧ (yX8_wornest.cls ≠ "java/lang/invoke/MethodHandle" ∧ yX8_wornest.cls ≠ "java/lang/invoke/VarHandle") ∧ ∀ sig, parseMethodDescriptor yX8_wornest.desc = some sig → 1 = sig.parameters.length := ⟨gws_in 1213 (by decide +kernel) rfl, gws_in 1 (by decide +kernel) rfl, by decide +kernel, fun sig h => by
  have e : (parseMethodDescriptor yX8_wornest.desc).map (fun s => s.parameters.length) = some 1 := by decide +kernel
  rw [h] at e; exact (Option.some.inj e).symm⟩
theorem vk_X8_wornest : VK yX8_wornest := ⟨gws_in 1211 (by decide +kernel) rfl, gws_in 1212 (by decide +kernel) rfl⟩
theorem lk_RL_111 : LK RL 111 yX8_wornest cX8_wornest 2 (some .int) 1 := ⟨gws_in 1210 (by decide +kernel) rfl, me_X8_wornest⟩
theorem me_X8_dampest : Cond.code yX8_dampest cX8_dampest 6 (some .int)  ∈ gws ∧ Cond.initialized yX8_dampest.cls ∈ gws ∧ (yX8_dampest.cls ≠ "java/lang/invoke/MethodHandle" ∧ yX8_dampest.cls ≠ "java/lang/invoke/VarHandle") ∧ ∀ sig, parseMethodDescriptor yX8_dampest.desc = some sig → 1 = sig.parameters.length := ⟨gws_in 1223 (by decide +kernel) rfl, gws_in 1 (by decide +kernel) rfl, by decide +kernel, fun sig h => by
  have e : (parseMethodDescriptor yX8_dampest.desc).map (fun s => s.parameters.length) = some 1 := by decide +kernel
  rw [h] at e; exact (Option.some.inj e).symm⟩
theorem vk_X8_dampest : VK yX8_dampest := ⟨gws_in 1221 (by decide +kernel) rfl, gws_in 1222 (by decide +kernel) rfl⟩
theorem lk_RL_114 : LK RL 114 yX8_dampest cX8_dampest 6 (some .int) 1 := ⟨gws_in 1220 (by decide +kernel) rfl, me_X8_dampest⟩
theorem me_X8_kept : Cond.code yX8_kept cX8_kept 5 (some .int)  ∈ gws ∧ Cond.initialized yX8_kept.cls ∈ gws ∧ (yX8_kept.cls ≠ "java/lang/invoke/MethodHandle" ∧ yX8_kept.cls ≠ "java/lang/invoke/VarHandle") ∧ ∀ sig, parseMethodDescriptor yX8_kept.desc = some sig → 1 = sig.parameters.length := ⟨gws_in 1231 (by decide +kernel) rfl, gws_in 1 (by decide +kernel) rfl, by decide +kernel, fun sig h => by
  have e : (parseMethodDescriptor yX8_kept.desc).map (fun s => s.parameters.length) = some 1 := by decide +kernel
  rw [h] at e; exact (Option.some.inj e).symm⟩
theorem vk_X8_kept : VK yX8_kept := ⟨gws_in 1229 (by decide +kernel) rfl, gws_in 1230 (by decide +kernel) rfl⟩
theorem lk_RL_117 : LK RL 117 yX8_kept cX8_kept 5 (some .int) 1 := ⟨gws_in 1228 (by decide +kernel) rfl, me_X8_kept⟩
theorem me_X8_sorest : Cond.code yX8_sorest cX8_sorest 2 (some .int)  ∈ gws ∧ Cond.initialized yX8_sorest.cls ∈ gws ∧ (yX8_sorest.cls ≠ "java/lang/invoke/MethodHandle" ∧ yX8_sorest.cls ≠ "java/lang/invoke/VarHandle") ∧ ∀ sig, parseMethodDescriptor yX8_sorest.desc = some sig → 1 = sig.parameters.length := ⟨gws_in 1238 (by decide +kernel) rfl, gws_in 1 (by decide +kernel) rfl, by decide +kernel, fun sig h => by
  have e : (parseMethodDescriptor yX8_sorest.desc).map (fun s => s.parameters.length) = some 1 := by decide +kernel
  rw [h] at e; exact (Option.some.inj e).symm⟩
theorem vk_X8_sorest : VK yX8_sorest := ⟨gws_in 1236 (by decide +kernel) rfl, gws_in 1237 (by decide +kernel) rfl⟩
theorem lk_RL_120 : LK RL 120 yX8_sorest cX8_sorest 2 (some .int) 1 := ⟨gws_in 1235 (by decide +kernel) rfl, me_X8_sorest⟩
theorem me_X8_eased : Cond.code yX8_eased cX8_eased 8 (some .int)  ∈ gws ∧ Cond.initialized yX8_eased.cls ∈ gws ∧ (yX8_eased.cls ≠ "java/lang/invoke/MethodHandle" ∧ yX8_eased.cls ≠ "java/lang/invoke/VarHandle") ∧ ∀ sig, parseMethodDescriptor yX8_eased.desc = some sig → 3 = sig.parameters.length := ⟨gws_in 1245 (by decide +kernel) rfl, gws_in 1 (by decide +kernel) rfl, by decide +kernel, fun sig h => by
  have e : (parseMethodDescriptor yX8_eased.desc).map (fun s => s.parameters.length) = some 3 := by decide +kernel
  rw [h] at e; exact (Option.some.inj e).symm⟩
theorem vk_X8_eased : VK yX8_eased := ⟨gws_in 1243 (by decide +kernel) rfl, gws_in 1244 (by decide +kernel) rfl⟩
theorem lk_RL_123 : LK RL 123 yX8_eased cX8_eased 8 (some .int) 3 := ⟨gws_in 1242 (by decide +kernel) rfl, me_X8_eased⟩
theorem me_X8_free : Cond.code yX8_free cX8_free 6 (some .int)  ∈ gws ∧ Cond.initialized yX8_free.cls ∈ gws ∧ (yX8_free.cls ≠ "java/lang/invoke/MethodHandle" ∧ yX8_free.cls ≠ "java/lang/invoke/VarHandle") ∧ ∀ sig, parseMethodDescriptor yX8_free.desc = some sig → 1 = sig.parameters.length := ⟨gws_in 1252 (by decide +kernel) rfl, gws_in 1 (by decide +kernel) rfl, by decide +kernel, fun sig h => by
  have e : (parseMethodDescriptor yX8_free.desc).map (fun s => s.parameters.length) = some 1 := by decide +kernel
  rw [h] at e; exact (Option.some.inj e).symm⟩
theorem vk_X8_free : VK yX8_free := ⟨gws_in 1250 (by decide +kernel) rfl, gws_in 1251 (by decide +kernel) rfl⟩
theorem lk_RL_126 : LK RL 126 yX8_free cX8_free 6 (some .int) 1 := ⟨gws_in 1249 (by decide +kernel) rfl, me_X8_free⟩
theorem me_X8_larger : Cond.code yX8_larger cX8_larger 4 (some .int)  ∈ gws ∧ Cond.initialized yX8_larger.cls ∈ gws ∧ (yX8_larger.cls ≠ "java/lang/invoke/MethodHandle" ∧ yX8_larger.cls ≠ "java/lang/invoke/VarHandle") ∧ ∀ sig, parseMethodDescriptor yX8_larger.desc = some sig → 1 = sig.parameters.length := ⟨gws_in 1259 (by decide +kernel) rfl, gws_in 1 (by decide +kernel) rfl, by decide +kernel, fun sig h => by
  have e : (parseMethodDescriptor yX8_larger.desc).map (fun s => s.parameters.length) = some 1 := by decide +kernel
  rw [h] at e; exact (Option.some.inj e).symm⟩
theorem vk_X8_larger : VK yX8_larger := ⟨gws_in 1257 (by decide +kernel) rfl, gws_in 1258 (by decide +kernel) rfl⟩
theorem lk_RL_129 : LK RL 129 yX8_larger cX8_larger 4 (some .int) 1 := ⟨gws_in 1256 (by decide +kernel) rfl, me_X8_larger⟩
theorem me_X8_wide : Cond.code yX8_wide cX8_wide 4 (some .int)  ∈ gws ∧ Cond.initialized yX8_wide.cls ∈ gws ∧ (yX8_wide.cls ≠ "java/lang/invoke/MethodHandle" ∧ yX8_wide.cls ≠ "java/lang/invoke/VarHandle") ∧ ∀ sig, parseMethodDescriptor yX8_wide.desc = some sig → 1 = sig.parameters.length := ⟨gws_in 1266 (by decide +kernel) rfl, gws_in 1 (by decide +kernel) rfl, by decide +kernel, fun sig h => by
  have e : (parseMethodDescriptor yX8_wide.desc).map (fun s => s.parameters.length) = some 1 := by decide +kernel
  rw [h] at e; exact (Option.some.inj e).symm⟩
theorem vk_X8_wide : VK yX8_wide := ⟨gws_in 1264 (by decide +kernel) rfl, gws_in 1265 (by decide +kernel) rfl⟩
theorem lk_RL_132 : LK RL 132 yX8_wide cX8_wide 4 (some .int) 1 := ⟨gws_in 1263 (by decide +kernel) rfl, me_X8_wide⟩
theorem me_X8_endures : Cond.code yX8_endures cX8_endures 3 (some .int)  ∈ gws ∧ Cond.initialized yX8_endures.cls ∈ gws ∧ (yX8_endures.cls ≠ "java/lang/invoke/MethodHandle" ∧ yX8_endures.cls ≠ "java/lang/invoke/VarHandle") ∧ ∀ sig, parseMethodDescriptor yX8_endures.desc = some sig → 2 = sig.parameters.length := ⟨gws_in 1274 (by decide +kernel) rfl, gws_in 1 (by decide +kernel) rfl, by decide +kernel, fun sig h => by
  have e : (parseMethodDescriptor yX8_endures.desc).map (fun s => s.parameters.length) = some 2 := by decide +kernel
  rw [h] at e; exact (Option.some.inj e).symm⟩
theorem vk_X8_endures : VK yX8_endures := ⟨gws_in 1272 (by decide +kernel) rfl, gws_in 1273 (by decide +kernel) rfl⟩
theorem lk_RL_135 : LK RL 135 yX8_endures cX8_endures 3 (some .int) 2 := ⟨gws_in 1271 (by decide +kernel) rfl, me_X8_endures⟩
theorem me_X8_ringed : Cond.code yX8_ringed cX8_ringed 2 (some .int)  ∈ gws ∧ Cond.initialized yX8_ringed.cls ∈ gws ∧ (yX8_ringed.cls ≠ "java/lang/invoke/MethodHandle" ∧ yX8_ringed.cls ≠ "java/lang/invoke/VarHandle") ∧ ∀ sig, parseMethodDescriptor yX8_ringed.desc = some sig → 1 = sig.parameters.length := ⟨gws_in 1281 (by decide +kernel) rfl, gws_in 1 (by decide +kernel) rfl, by decide +kernel, fun sig h => by
  have e : (parseMethodDescriptor yX8_ringed.desc).map (fun s => s.parameters.length) = some 1 := by decide +kernel
  rw [h] at e; exact (Option.some.inj e).symm⟩
theorem vk_X8_ringed : VK yX8_ringed := ⟨gws_in 1279 (by decide +kernel) rfl, gws_in 1280 (by decide +kernel) rfl⟩
theorem lk_RL_138 : LK RL 138 yX8_ringed cX8_ringed 2 (some .int) 1 := ⟨gws_in 1278 (by decide +kernel) rfl, me_X8_ringed⟩
theorem me_X8_init : Cond.code yX8_init cX8_init 1 none  ∈ gws ∧ Cond.initialized yX8_init.cls ∈ gws ∧ (yX8_init.cls ≠ "java/lang/invoke/MethodHandle" ∧ yX8_init.cls ≠ "java/lang/invoke/VarHandle") ∧ ∀ sig, parseMethodDescriptor yX8_init.desc = some sig → 0 = sig.parameters.length := ⟨gws_in 29 (by decide +kernel) rfl, gws_in 1 (by decide +kernel) rfl, by decide +kernel, fun sig h => by
  have e : (parseMethodDescriptor yX8_init.desc).map (fun s => s.parameters.length) = some 0 := by decide +kernel
  rw [h] at e; exact (Option.some.inj e).symm⟩
theorem ik_X8_init : Cond.instanceMethod yX8_init ∈ gws := gws_in 28 (by decide +kernel) rfl
theorem lk_RL_141 : LK RL 141 yX8_init cX8_init 1 none 0 := ⟨gws_in 27 (by decide +kernel) rfl, me_X8_init⟩
theorem me_X9_init : Cond.code yX9_init cX9_init 1 none  ∈ gws ∧ Cond.initialized yX9_init.cls ∈ gws ∧ (yX9_init.cls ≠ "java/lang/invoke/MethodHandle" ∧ yX9_init.cls ≠ "java/lang/invoke/VarHandle") ∧ ∀ sig, parseMethodDescriptor yX9_init.desc = some sig → 0 = sig.parameters.length := ⟨gws_in 1286 (by decide +kernel) rfl, gws_in 10 (by decide +kernel) rfl, by decide +kernel, fun sig h => by
  have e : (parseMethodDescriptor yX9_init.desc).map (fun s => s.parameters.length) = some 0 := by decide +kernel
  rw [h] at e; exact (Option.some.inj e).symm⟩
theorem ik_X9_init : Cond.instanceMethod yX9_init ∈ gws := gws_in 1285 (by decide +kernel) rfl
theorem lk_RL_144 : LK RL 144 yX9_init cX9_init 1 none 0 := ⟨gws_in 1284 (by decide +kernel) rfl, me_X9_init⟩
theorem me_X8_feed : Cond.code yX8_feed cX8_feed 6 (some .int)  ∈ gws ∧ Cond.initialized yX8_feed.cls ∈ gws ∧ (yX8_feed.cls ≠ "java/lang/invoke/MethodHandle" ∧ yX8_feed.cls ≠ "java/lang/invoke/VarHandle") ∧ ∀ sig, parseMethodDescriptor yX8_feed.desc = some sig → 5 = sig.parameters.length := ⟨gws_in 334 (by decide +kernel) rfl, gws_in 1 (by decide +kernel) rfl, by decide +kernel, fun sig h => by
  have e : (parseMethodDescriptor yX8_feed.desc).map (fun s => s.parameters.length) = some 5 := by decide +kernel
  rw [h] at e; exact (Option.some.inj e).symm⟩
theorem vk_X8_feed : VK yX8_feed := ⟨gws_in 332 (by decide +kernel) rfl, gws_in 333 (by decide +kernel) rfl⟩
theorem lk_RL_145 : LK RL 145 yX8_feed cX8_feed 6 (some .int) 5 := ⟨gws_in 331 (by decide +kernel) rfl, me_X8_feed⟩
theorem me_X9_feed : Cond.code yX9_feed cX9_feed 6 (some .int)  ∈ gws ∧ Cond.initialized yX9_feed.cls ∈ gws ∧ (yX9_feed.cls ≠ "java/lang/invoke/MethodHandle" ∧ yX9_feed.cls ≠ "java/lang/invoke/VarHandle") ∧ ∀ sig, parseMethodDescriptor yX9_feed.desc = some sig → 5 = sig.parameters.length := ⟨gws_in 1483 (by decide +kernel) rfl, gws_in 10 (by decide +kernel) rfl, by decide +kernel, fun sig h => by
  have e : (parseMethodDescriptor yX9_feed.desc).map (fun s => s.parameters.length) = some 5 := by decide +kernel
  rw [h] at e; exact (Option.some.inj e).symm⟩
theorem vk_X9_feed : VK yX9_feed := ⟨gws_in 1481 (by decide +kernel) rfl, gws_in 1482 (by decide +kernel) rfl⟩
theorem lk_RL_149 : LK RL 149 yX9_feed cX9_feed 6 (some .int) 5 := ⟨gws_in 1480 (by decide +kernel) rfl, me_X9_feed⟩
theorem me_L_town : Cond.codeWith yL_town cL_town 4 (some .int) [(0, 9, 12, 13)] ∈ gws ∧ Cond.initialized yL_town.cls ∈ gws ∧ (yL_town.cls ≠ "java/lang/invoke/MethodHandle" ∧ yL_town.cls ≠ "java/lang/invoke/VarHandle") ∧ ∀ sig, parseMethodDescriptor yL_town.desc = some sig → 3 = sig.parameters.length := ⟨gws_in 468 (by decide +kernel) rfl, gws_in 0 (by decide +kernel) rfl, by decide +kernel, fun sig h => by
  have e : (parseMethodDescriptor yL_town.desc).map (fun s => s.parameters.length) = some 3 := by decide +kernel
  rw [h] at e; exact (Option.some.inj e).symm⟩
theorem sk_L_town : Cond.static yL_town ∈ gws := gws_in 467 (by decide +kernel) rfl
theorem lkh_RL_150 : LKH RL 150 yL_town cL_town 4 (some .int) [(0, 9, 12, 13)] 3 := ⟨gws_in 466 (by decide +kernel) rfl, me_L_town⟩
theorem me_X9_town : Cond.code yX9_town cX9_town 3 (some .int)  ∈ gws ∧ Cond.initialized yX9_town.cls ∈ gws ∧ (yX9_town.cls ≠ "java/lang/invoke/MethodHandle" ∧ yX9_town.cls ≠ "java/lang/invoke/VarHandle") ∧ ∀ sig, parseMethodDescriptor yX9_town.desc = some sig → 1 = sig.parameters.length := ⟨gws_in 1491 (by decide +kernel) rfl, gws_in 10 (by decide +kernel) rfl, by decide +kernel, fun sig h => by
  have e : (parseMethodDescriptor yX9_town.desc).map (fun s => s.parameters.length) = some 1 := by decide +kernel
  rw [h] at e; exact (Option.some.inj e).symm⟩
theorem vk_X9_town : VK yX9_town := ⟨gws_in 1489 (by decide +kernel) rfl, gws_in 1490 (by decide +kernel) rfl⟩
theorem lk_RL_155 : LK RL 155 yX9_town cX9_town 3 (some .int) 1 := ⟨gws_in 1488 (by decide +kernel) rfl, me_X9_town⟩
theorem me_X9_thrown : Cond.code yX9_thrown cX9_thrown 1 (some .int)  ∈ gws ∧ Cond.initialized yX9_thrown.cls ∈ gws ∧ (yX9_thrown.cls ≠ "java/lang/invoke/MethodHandle" ∧ yX9_thrown.cls ≠ "java/lang/invoke/VarHandle") ∧ ∀ sig, parseMethodDescriptor yX9_thrown.desc = some sig → 0 = sig.parameters.length := ⟨gws_in 1479 (by decide +kernel) rfl, gws_in 10 (by decide +kernel) rfl, by decide +kernel, fun sig h => by
  have e : (parseMethodDescriptor yX9_thrown.desc).map (fun s => s.parameters.length) = some 0 := by decide +kernel
  rw [h] at e; exact (Option.some.inj e).symm⟩
theorem vk_X9_thrown : VK yX9_thrown := ⟨gws_in 1477 (by decide +kernel) rfl, gws_in 1478 (by decide +kernel) rfl⟩
theorem lk_RL_156 : LK RL 156 yX9_thrown cX9_thrown 1 (some .int) 0 := ⟨gws_in 1476 (by decide +kernel) rfl, me_X9_thrown⟩
theorem me_X8_fault : Cond.code yX8_fault cX8_fault 1 (some .int)  ∈ gws ∧ Cond.initialized yX8_fault.cls ∈ gws ∧ (yX8_fault.cls ≠ "java/lang/invoke/MethodHandle" ∧ yX8_fault.cls ≠ "java/lang/invoke/VarHandle") ∧ ∀ sig, parseMethodDescriptor yX8_fault.desc = some sig → 0 = sig.parameters.length := ⟨gws_in 346 (by decide +kernel) rfl, gws_in 1 (by decide +kernel) rfl, by decide +kernel, fun sig h => by
  have e : (parseMethodDescriptor yX8_fault.desc).map (fun s => s.parameters.length) = some 0 := by decide +kernel
  rw [h] at e; exact (Option.some.inj e).symm⟩
theorem vk_X8_fault : VK yX8_fault := ⟨gws_in 344 (by decide +kernel) rfl, gws_in 345 (by decide +kernel) rfl⟩
theorem lk_RL_160 : LK RL 160 yX8_fault cX8_fault 1 (some .int) 0 := ⟨gws_in 343 (by decide +kernel) rfl, me_X8_fault⟩
theorem me_X9_fault : Cond.code yX9_fault cX9_fault 1 (some .int)  ∈ gws ∧ Cond.initialized yX9_fault.cls ∈ gws ∧ (yX9_fault.cls ≠ "java/lang/invoke/MethodHandle" ∧ yX9_fault.cls ≠ "java/lang/invoke/VarHandle") ∧ ∀ sig, parseMethodDescriptor yX9_fault.desc = some sig → 0 = sig.parameters.length := ⟨gws_in 1610 (by decide +kernel) rfl, gws_in 10 (by decide +kernel) rfl, by decide +kernel, fun sig h => by
  have e : (parseMethodDescriptor yX9_fault.desc).map (fun s => s.parameters.length) = some 0 := by decide +kernel
  rw [h] at e; exact (Option.some.inj e).symm⟩
theorem vk_X9_fault : VK yX9_fault := ⟨gws_in 1608 (by decide +kernel) rfl, gws_in 1609 (by decide +kernel) rfl⟩
theorem lk_RL_163 : LK RL 163 yX9_fault cX9_fault 1 (some .int) 0 := ⟨gws_in 1607 (by decide +kernel) rfl, me_X9_fault⟩
theorem me_L_count : Cond.codeWith yL_count cL_count 4 (some .int) [(0, 9, 12, 18)] ∈ gws ∧ Cond.initialized yL_count.cls ∈ gws ∧ (yL_count.cls ≠ "java/lang/invoke/MethodHandle" ∧ yL_count.cls ≠ "java/lang/invoke/VarHandle") ∧ ∀ sig, parseMethodDescriptor yL_count.desc = some sig → 3 = sig.parameters.length := ⟨gws_in 734 (by decide +kernel) rfl, gws_in 0 (by decide +kernel) rfl, by decide +kernel, fun sig h => by
  have e : (parseMethodDescriptor yL_count.desc).map (fun s => s.parameters.length) = some 3 := by decide +kernel
  rw [h] at e; exact (Option.some.inj e).symm⟩
theorem sk_L_count : Cond.static yL_count ∈ gws := gws_in 733 (by decide +kernel) rfl
theorem lkh_RL_164 : LKH RL 164 yL_count cL_count 4 (some .int) [(0, 9, 12, 18)] 3 := ⟨gws_in 732 (by decide +kernel) rfl, me_L_count⟩
theorem me_X9_count : Cond.code yX9_count cX9_count 2 (some .int)  ∈ gws ∧ Cond.initialized yX9_count.cls ∈ gws ∧ (yX9_count.cls ≠ "java/lang/invoke/MethodHandle" ∧ yX9_count.cls ≠ "java/lang/invoke/VarHandle") ∧ ∀ sig, parseMethodDescriptor yX9_count.desc = some sig → 1 = sig.parameters.length := ⟨gws_in 1618 (by decide +kernel) rfl, gws_in 10 (by decide +kernel) rfl, by decide +kernel, fun sig h => by
  have e : (parseMethodDescriptor yX9_count.desc).map (fun s => s.parameters.length) = some 1 := by decide +kernel
  rw [h] at e; exact (Option.some.inj e).symm⟩
theorem vk_X9_count : VK yX9_count := ⟨gws_in 1616 (by decide +kernel) rfl, gws_in 1617 (by decide +kernel) rfl⟩
theorem lk_RL_166 : LK RL 166 yX9_count cX9_count 2 (some .int) 1 := ⟨gws_in 1615 (by decide +kernel) rfl, me_X9_count⟩
theorem me_L_house : Cond.codeWith yL_house cL_house 5 (some .int) [(0, 10, 13, 18)] ∈ gws ∧ Cond.initialized yL_house.cls ∈ gws ∧ (yL_house.cls ≠ "java/lang/invoke/MethodHandle" ∧ yL_house.cls ≠ "java/lang/invoke/VarHandle") ∧ ∀ sig, parseMethodDescriptor yL_house.desc = some sig → 4 = sig.parameters.length := ⟨gws_in 822 (by decide +kernel) rfl, gws_in 0 (by decide +kernel) rfl, by decide +kernel, fun sig h => by
  have e : (parseMethodDescriptor yL_house.desc).map (fun s => s.parameters.length) = some 4 := by decide +kernel
  rw [h] at e; exact (Option.some.inj e).symm⟩
theorem sk_L_house : Cond.static yL_house ∈ gws := gws_in 821 (by decide +kernel) rfl
theorem lkh_RL_167 : LKH RL 167 yL_house cL_house 5 (some .int) [(0, 10, 13, 18)] 4 := ⟨gws_in 820 (by decide +kernel) rfl, me_L_house⟩
theorem me_X9_house : Cond.code yX9_house cX9_house 3 (some .int)  ∈ gws ∧ Cond.initialized yX9_house.cls ∈ gws ∧ (yX9_house.cls ≠ "java/lang/invoke/MethodHandle" ∧ yX9_house.cls ≠ "java/lang/invoke/VarHandle") ∧ ∀ sig, parseMethodDescriptor yX9_house.desc = some sig → 2 = sig.parameters.length := ⟨gws_in 1707 (by decide +kernel) rfl, gws_in 10 (by decide +kernel) rfl, by decide +kernel, fun sig h => by
  have e : (parseMethodDescriptor yX9_house.desc).map (fun s => s.parameters.length) = some 2 := by decide +kernel
  rw [h] at e; exact (Option.some.inj e).symm⟩
theorem vk_X9_house : VK yX9_house := ⟨gws_in 1705 (by decide +kernel) rfl, gws_in 1706 (by decide +kernel) rfl⟩
theorem lk_RL_170 : LK RL 170 yX9_house cX9_house 3 (some .int) 2 := ⟨gws_in 1704 (by decide +kernel) rfl, me_X9_house⟩
theorem me_L_person : Cond.codeWith yL_person cL_person 5 (some .int) [(0, 10, 13, 18)] ∈ gws ∧ Cond.initialized yL_person.cls ∈ gws ∧ (yL_person.cls ≠ "java/lang/invoke/MethodHandle" ∧ yL_person.cls ≠ "java/lang/invoke/VarHandle") ∧ ∀ sig, parseMethodDescriptor yL_person.desc = some sig → 4 = sig.parameters.length := ⟨gws_in 848 (by decide +kernel) rfl, gws_in 0 (by decide +kernel) rfl, by decide +kernel, fun sig h => by
  have e : (parseMethodDescriptor yL_person.desc).map (fun s => s.parameters.length) = some 4 := by decide +kernel
  rw [h] at e; exact (Option.some.inj e).symm⟩
theorem sk_L_person : Cond.static yL_person ∈ gws := gws_in 847 (by decide +kernel) rfl
theorem lkh_RL_171 : LKH RL 171 yL_person cL_person 5 (some .int) [(0, 10, 13, 18)] 4 := ⟨gws_in 846 (by decide +kernel) rfl, me_L_person⟩
theorem me_X9_person : Cond.code yX9_person cX9_person 3 (some .int)  ∈ gws ∧ Cond.initialized yX9_person.cls ∈ gws ∧ (yX9_person.cls ≠ "java/lang/invoke/MethodHandle" ∧ yX9_person.cls ≠ "java/lang/invoke/VarHandle") ∧ ∀ sig, parseMethodDescriptor yX9_person.desc = some sig → 2 = sig.parameters.length := ⟨gws_in 1730 (by decide +kernel) rfl, gws_in 10 (by decide +kernel) rfl, by decide +kernel, fun sig h => by
  have e : (parseMethodDescriptor yX9_person.desc).map (fun s => s.parameters.length) = some 2 := by decide +kernel
  rw [h] at e; exact (Option.some.inj e).symm⟩
theorem vk_X9_person : VK yX9_person := ⟨gws_in 1728 (by decide +kernel) rfl, gws_in 1729 (by decide +kernel) rfl⟩
theorem lk_RL_173 : LK RL 173 yX9_person cX9_person 3 (some .int) 2 := ⟨gws_in 1727 (by decide +kernel) rfl, me_X9_person⟩
theorem me_L_eases : Cond.codeWith yL_eases cL_eases 5 (some .int) [(0, 10, 13, 18)] ∈ gws ∧ Cond.initialized yL_eases.cls ∈ gws ∧ (yL_eases.cls ≠ "java/lang/invoke/MethodHandle" ∧ yL_eases.cls ≠ "java/lang/invoke/VarHandle") ∧ ∀ sig, parseMethodDescriptor yL_eases.desc = some sig → 4 = sig.parameters.length := ⟨gws_in 861 (by decide +kernel) rfl, gws_in 0 (by decide +kernel) rfl, by decide +kernel, fun sig h => by
  have e : (parseMethodDescriptor yL_eases.desc).map (fun s => s.parameters.length) = some 4 := by decide +kernel
  rw [h] at e; exact (Option.some.inj e).symm⟩
theorem sk_L_eases : Cond.static yL_eases ∈ gws := gws_in 860 (by decide +kernel) rfl
theorem lkh_RL_174 : LKH RL 174 yL_eases cL_eases 5 (some .int) [(0, 10, 13, 18)] 4 := ⟨gws_in 859 (by decide +kernel) rfl, me_L_eases⟩
theorem me_X9_eases : Cond.code yX9_eases cX9_eases 3 (some .int)  ∈ gws ∧ Cond.initialized yX9_eases.cls ∈ gws ∧ (yX9_eases.cls ≠ "java/lang/invoke/MethodHandle" ∧ yX9_eases.cls ≠ "java/lang/invoke/VarHandle") ∧ ∀ sig, parseMethodDescriptor yX9_eases.desc = some sig → 2 = sig.parameters.length := ⟨gws_in 1738 (by decide +kernel) rfl, gws_in 10 (by decide +kernel) rfl, by decide +kernel, fun sig h => by
  have e : (parseMethodDescriptor yX9_eases.desc).map (fun s => s.parameters.length) = some 2 := by decide +kernel
  rw [h] at e; exact (Option.some.inj e).symm⟩
theorem vk_X9_eases : VK yX9_eases := ⟨gws_in 1736 (by decide +kernel) rfl, gws_in 1737 (by decide +kernel) rfl⟩
theorem lk_RL_176 : LK RL 176 yX9_eases cX9_eases 3 (some .int) 2 := ⟨gws_in 1735 (by decide +kernel) rfl, me_X9_eases⟩
theorem me_X8_days : Cond.code yX8_days cX8_days 2 (some .int)  ∈ gws ∧ Cond.initialized yX8_days.cls ∈ gws ∧ (yX8_days.cls ≠ "java/lang/invoke/MethodHandle" ∧ yX8_days.cls ≠ "java/lang/invoke/VarHandle") ∧ ∀ sig, parseMethodDescriptor yX8_days.desc = some sig → 1 = sig.parameters.length := ⟨gws_in 350 (by decide +kernel) rfl, gws_in 1 (by decide +kernel) rfl, by decide +kernel, fun sig h => by
  have e : (parseMethodDescriptor yX8_days.desc).map (fun s => s.parameters.length) = some 1 := by decide +kernel
  rw [h] at e; exact (Option.some.inj e).symm⟩
theorem vk_X8_days : VK yX8_days := ⟨gws_in 348 (by decide +kernel) rfl, gws_in 349 (by decide +kernel) rfl⟩
theorem lk_RL_177 : LK RL 177 yX8_days cX8_days 2 (some .int) 1 := ⟨gws_in 347 (by decide +kernel) rfl, me_X8_days⟩
theorem me_X9_days : Cond.code yX9_days cX9_days 3 (some .int)  ∈ gws ∧ Cond.initialized yX9_days.cls ∈ gws ∧ (yX9_days.cls ≠ "java/lang/invoke/MethodHandle" ∧ yX9_days.cls ≠ "java/lang/invoke/VarHandle") ∧ ∀ sig, parseMethodDescriptor yX9_days.desc = some sig → 1 = sig.parameters.length := ⟨gws_in 1742 (by decide +kernel) rfl, gws_in 10 (by decide +kernel) rfl, by decide +kernel, fun sig h => by
  have e : (parseMethodDescriptor yX9_days.desc).map (fun s => s.parameters.length) = some 1 := by decide +kernel
  rw [h] at e; exact (Option.some.inj e).symm⟩
theorem vk_X9_days : VK yX9_days := ⟨gws_in 1740 (by decide +kernel) rfl, gws_in 1741 (by decide +kernel) rfl⟩
theorem lk_RL_180 : LK RL 180 yX9_days cX9_days 3 (some .int) 1 := ⟨gws_in 1739 (by decide +kernel) rfl, me_X9_days⟩
theorem me_L_putIn : Cond.codeWith yL_putIn cL_putIn 5 (some .int) [(0, 10, 13, 18)] ∈ gws ∧ Cond.initialized yL_putIn.cls ∈ gws ∧ (yL_putIn.cls ≠ "java/lang/invoke/MethodHandle" ∧ yL_putIn.cls ≠ "java/lang/invoke/VarHandle") ∧ ∀ sig, parseMethodDescriptor yL_putIn.desc = some sig → 4 = sig.parameters.length := ⟨gws_in 869 (by decide +kernel) rfl, gws_in 0 (by decide +kernel) rfl, by decide +kernel, fun sig h => by
  have e : (parseMethodDescriptor yL_putIn.desc).map (fun s => s.parameters.length) = some 4 := by decide +kernel
  rw [h] at e; exact (Option.some.inj e).symm⟩
theorem sk_L_putIn : Cond.static yL_putIn ∈ gws := gws_in 868 (by decide +kernel) rfl
theorem lkh_RL_181 : LKH RL 181 yL_putIn cL_putIn 5 (some .int) [(0, 10, 13, 18)] 4 := ⟨gws_in 867 (by decide +kernel) rfl, me_L_putIn⟩
theorem me_X9_putIn : Cond.code yX9_putIn cX9_putIn 3 (some .int)  ∈ gws ∧ Cond.initialized yX9_putIn.cls ∈ gws ∧ (yX9_putIn.cls ≠ "java/lang/invoke/MethodHandle" ∧ yX9_putIn.cls ≠ "java/lang/invoke/VarHandle") ∧ ∀ sig, parseMethodDescriptor yX9_putIn.desc = some sig → 2 = sig.parameters.length := ⟨gws_in 1762 (by decide +kernel) rfl, gws_in 10 (by decide +kernel) rfl, by decide +kernel, fun sig h => by
  have e : (parseMethodDescriptor yX9_putIn.desc).map (fun s => s.parameters.length) = some 2 := by decide +kernel
  rw [h] at e; exact (Option.some.inj e).symm⟩
theorem vk_X9_putIn : VK yX9_putIn := ⟨gws_in 1760 (by decide +kernel) rfl, gws_in 1761 (by decide +kernel) rfl⟩
theorem lk_RL_183 : LK RL 183 yX9_putIn cX9_putIn 3 (some .int) 2 := ⟨gws_in 1759 (by decide +kernel) rfl, me_X9_putIn⟩
theorem me_L_out : Cond.codeWith yL_out cL_out 4 (some .int) [(0, 9, 12, 18)] ∈ gws ∧ Cond.initialized yL_out.cls ∈ gws ∧ (yL_out.cls ≠ "java/lang/invoke/MethodHandle" ∧ yL_out.cls ≠ "java/lang/invoke/VarHandle") ∧ ∀ sig, parseMethodDescriptor yL_out.desc = some sig → 3 = sig.parameters.length := ⟨gws_in 882 (by decide +kernel) rfl, gws_in 0 (by decide +kernel) rfl, by decide +kernel, fun sig h => by
  have e : (parseMethodDescriptor yL_out.desc).map (fun s => s.parameters.length) = some 3 := by decide +kernel
  rw [h] at e; exact (Option.some.inj e).symm⟩
theorem sk_L_out : Cond.static yL_out ∈ gws := gws_in 881 (by decide +kernel) rfl
theorem lkh_RL_184 : LKH RL 184 yL_out cL_out 4 (some .int) [(0, 9, 12, 18)] 3 := ⟨gws_in 880 (by decide +kernel) rfl, me_L_out⟩
theorem me_X9_out : Cond.code yX9_out cX9_out 3 (some .int)  ∈ gws ∧ Cond.initialized yX9_out.cls ∈ gws ∧ (yX9_out.cls ≠ "java/lang/invoke/MethodHandle" ∧ yX9_out.cls ≠ "java/lang/invoke/VarHandle") ∧ ∀ sig, parseMethodDescriptor yX9_out.desc = some sig → 1 = sig.parameters.length := ⟨gws_in 1766 (by decide +kernel) rfl, gws_in 10 (by decide +kernel) rfl, by decide +kernel, fun sig h => by
  have e : (parseMethodDescriptor yX9_out.desc).map (fun s => s.parameters.length) = some 1 := by decide +kernel
  rw [h] at e; exact (Option.some.inj e).symm⟩
theorem vk_X9_out : VK yX9_out := ⟨gws_in 1764 (by decide +kernel) rfl, gws_in 1765 (by decide +kernel) rfl⟩
theorem lk_RL_186 : LK RL 186 yX9_out cX9_out 3 (some .int) 1 := ⟨gws_in 1763 (by decide +kernel) rfl, me_X9_out⟩
theorem me_L_stuff : Cond.codeWith yL_stuff cL_stuff 5 (some .int) [(0, 10, 13, 18)] ∈ gws ∧ Cond.initialized yL_stuff.cls ∈ gws ∧ (yL_stuff.cls ≠ "java/lang/invoke/MethodHandle" ∧ yL_stuff.cls ≠ "java/lang/invoke/VarHandle") ∧ ∀ sig, parseMethodDescriptor yL_stuff.desc = some sig → 4 = sig.parameters.length := ⟨gws_in 890 (by decide +kernel) rfl, gws_in 0 (by decide +kernel) rfl, by decide +kernel, fun sig h => by
  have e : (parseMethodDescriptor yL_stuff.desc).map (fun s => s.parameters.length) = some 4 := by decide +kernel
  rw [h] at e; exact (Option.some.inj e).symm⟩
theorem sk_L_stuff : Cond.static yL_stuff ∈ gws := gws_in 889 (by decide +kernel) rfl
theorem lkh_RL_187 : LKH RL 187 yL_stuff cL_stuff 5 (some .int) [(0, 10, 13, 18)] 4 := ⟨gws_in 888 (by decide +kernel) rfl, me_L_stuff⟩
theorem me_X9_stuff : Cond.code yX9_stuff cX9_stuff 3 (some .int)  ∈ gws ∧ Cond.initialized yX9_stuff.cls ∈ gws ∧ (yX9_stuff.cls ≠ "java/lang/invoke/MethodHandle" ∧ yX9_stuff.cls ≠ "java/lang/invoke/VarHandle") ∧ ∀ sig, parseMethodDescriptor yX9_stuff.desc = some sig → 2 = sig.parameters.length := ⟨gws_in 1770 (by decide +kernel) rfl, gws_in 10 (by decide +kernel) rfl, by decide +kernel, fun sig h => by
  have e : (parseMethodDescriptor yX9_stuff.desc).map (fun s => s.parameters.length) = some 2 := by decide +kernel
  rw [h] at e; exact (Option.some.inj e).symm⟩
theorem vk_X9_stuff : VK yX9_stuff := ⟨gws_in 1768 (by decide +kernel) rfl, gws_in 1769 (by decide +kernel) rfl⟩
theorem lk_RL_189 : LK RL 189 yX9_stuff cX9_stuff 3 (some .int) 2 := ⟨gws_in 1767 (by decide +kernel) rfl, me_X9_stuff⟩
theorem me_L_change : Cond.codeWith yL_change cL_change 5 (some .int) [(0, 17, 20, 18)] ∈ gws ∧ Cond.initialized yL_change.cls ∈ gws ∧ (yL_change.cls ≠ "java/lang/invoke/MethodHandle" ∧ yL_change.cls ≠ "java/lang/invoke/VarHandle") ∧ ∀ sig, parseMethodDescriptor yL_change.desc = some sig → 4 = sig.parameters.length := ⟨gws_in 897 (by decide +kernel) rfl, gws_in 0 (by decide +kernel) rfl, by decide +kernel, fun sig h => by
  have e : (parseMethodDescriptor yL_change.desc).map (fun s => s.parameters.length) = some 4 := by decide +kernel
  rw [h] at e; exact (Option.some.inj e).symm⟩
theorem sk_L_change : Cond.static yL_change ∈ gws := gws_in 896 (by decide +kernel) rfl
theorem lkh_RL_190 : LKH RL 190 yL_change cL_change 5 (some .int) [(0, 17, 20, 18)] 4 := ⟨gws_in 895 (by decide +kernel) rfl, me_L_change⟩
theorem me_X9_change : Cond.code yX9_change cX9_change 6 (some .boolean)  ∈ gws ∧ Cond.initialized yX9_change.cls ∈ gws ∧ (yX9_change.cls ≠ "java/lang/invoke/MethodHandle" ∧ yX9_change.cls ≠ "java/lang/invoke/VarHandle") ∧ ∀ sig, parseMethodDescriptor yX9_change.desc = some sig → 2 = sig.parameters.length := ⟨gws_in 1774 (by decide +kernel) rfl, gws_in 10 (by decide +kernel) rfl, by decide +kernel, fun sig h => by
  have e : (parseMethodDescriptor yX9_change.desc).map (fun s => s.parameters.length) = some 2 := by decide +kernel
  rw [h] at e; exact (Option.some.inj e).symm⟩
theorem vk_X9_change : VK yX9_change := ⟨gws_in 1772 (by decide +kernel) rfl, gws_in 1773 (by decide +kernel) rfl⟩
theorem lk_RL_192 : LK RL 192 yX9_change cX9_change 6 (some .boolean) 2 := ⟨gws_in 1771 (by decide +kernel) rfl, me_X9_change⟩
theorem me_X8_letIn : Cond.code yX8_letIn cX8_letIn 2 (some .int)  ∈ gws ∧ Cond.initialized yX8_letIn.cls ∈ gws ∧ (yX8_letIn.cls ≠ "java/lang/invoke/MethodHandle" ∧ yX8_letIn.cls ≠ "java/lang/invoke/VarHandle") ∧ ∀ sig, parseMethodDescriptor yX8_letIn.desc = some sig → 0 = sig.parameters.length := ⟨gws_in 427 (by decide +kernel) rfl, gws_in 1 (by decide +kernel) rfl, by decide +kernel, fun sig h => by
  have e : (parseMethodDescriptor yX8_letIn.desc).map (fun s => s.parameters.length) = some 0 := by decide +kernel
  rw [h] at e; exact (Option.some.inj e).symm⟩
theorem vk_X8_letIn : VK yX8_letIn := ⟨gws_in 425 (by decide +kernel) rfl, gws_in 426 (by decide +kernel) rfl⟩
theorem lk_RL_193 : LK RL 193 yX8_letIn cX8_letIn 2 (some .int) 0 := ⟨gws_in 424 (by decide +kernel) rfl, me_X8_letIn⟩
theorem me_X9_letIn : Cond.code yX9_letIn cX9_letIn 2 (some .int)  ∈ gws ∧ Cond.initialized yX9_letIn.cls ∈ gws ∧ (yX9_letIn.cls ≠ "java/lang/invoke/MethodHandle" ∧ yX9_letIn.cls ≠ "java/lang/invoke/VarHandle") ∧ ∀ sig, parseMethodDescriptor yX9_letIn.desc = some sig → 0 = sig.parameters.length := ⟨gws_in 1778 (by decide +kernel) rfl, gws_in 10 (by decide +kernel) rfl, by decide +kernel, fun sig h => by
  have e : (parseMethodDescriptor yX9_letIn.desc).map (fun s => s.parameters.length) = some 0 := by decide +kernel
  rw [h] at e; exact (Option.some.inj e).symm⟩
theorem vk_X9_letIn : VK yX9_letIn := ⟨gws_in 1776 (by decide +kernel) rfl, gws_in 1777 (by decide +kernel) rfl⟩
theorem lk_RL_196 : LK RL 196 yX9_letIn cX9_letIn 2 (some .int) 0 := ⟨gws_in 1775 (by decide +kernel) rfl, me_X9_letIn⟩
theorem me_X8_undo : Cond.code yX8_undo cX8_undo 1 (some .int)  ∈ gws ∧ Cond.initialized yX8_undo.cls ∈ gws ∧ (yX8_undo.cls ≠ "java/lang/invoke/MethodHandle" ∧ yX8_undo.cls ≠ "java/lang/invoke/VarHandle") ∧ ∀ sig, parseMethodDescriptor yX8_undo.desc = some sig → 0 = sig.parameters.length := ⟨gws_in 431 (by decide +kernel) rfl, gws_in 1 (by decide +kernel) rfl, by decide +kernel, fun sig h => by
  have e : (parseMethodDescriptor yX8_undo.desc).map (fun s => s.parameters.length) = some 0 := by decide +kernel
  rw [h] at e; exact (Option.some.inj e).symm⟩
theorem vk_X8_undo : VK yX8_undo := ⟨gws_in 429 (by decide +kernel) rfl, gws_in 430 (by decide +kernel) rfl⟩
theorem lk_RL_197 : LK RL 197 yX8_undo cX8_undo 1 (some .int) 0 := ⟨gws_in 428 (by decide +kernel) rfl, me_X8_undo⟩
theorem me_X9_undo : Cond.code yX9_undo cX9_undo 2 (some .int)  ∈ gws ∧ Cond.initialized yX9_undo.cls ∈ gws ∧ (yX9_undo.cls ≠ "java/lang/invoke/MethodHandle" ∧ yX9_undo.cls ≠ "java/lang/invoke/VarHandle") ∧ ∀ sig, parseMethodDescriptor yX9_undo.desc = some sig → 0 = sig.parameters.length := ⟨gws_in 1614 (by decide +kernel) rfl, gws_in 10 (by decide +kernel) rfl, by decide +kernel, fun sig h => by
  have e : (parseMethodDescriptor yX9_undo.desc).map (fun s => s.parameters.length) = some 0 := by decide +kernel
  rw [h] at e; exact (Option.some.inj e).symm⟩
theorem vk_X9_undo : VK yX9_undo := ⟨gws_in 1612 (by decide +kernel) rfl, gws_in 1613 (by decide +kernel) rfl⟩
theorem lk_RL_200 : LK RL 200 yX9_undo cX9_undo 2 (some .int) 0 := ⟨gws_in 1611 (by decide +kernel) rfl, me_X9_undo⟩
theorem me_L_then : Cond.codeWith yL_then cL_then 6 (some .int) [(0, 12, 15, 18), (0, 12, 19, 13)] ∈ gws ∧ Cond.initialized yL_then.cls ∈ gws ∧ (yL_then.cls ≠ "java/lang/invoke/MethodHandle" ∧ yL_then.cls ≠ "java/lang/invoke/VarHandle") ∧ ∀ sig, parseMethodDescriptor yL_then.desc = some sig → 5 = sig.parameters.length := ⟨gws_in 912 (by decide +kernel) rfl, gws_in 0 (by decide +kernel) rfl, by decide +kernel, fun sig h => by
  have e : (parseMethodDescriptor yL_then.desc).map (fun s => s.parameters.length) = some 5 := by decide +kernel
  rw [h] at e; exact (Option.some.inj e).symm⟩
theorem sk_L_then : Cond.static yL_then ∈ gws := gws_in 911 (by decide +kernel) rfl
theorem lkh_RL_201 : LKH RL 201 yL_then cL_then 6 (some .int) [(0, 12, 15, 18), (0, 12, 19, 13)] 5 := ⟨gws_in 910 (by decide +kernel) rfl, me_L_then⟩
theorem me_X9_then : Cond.code yX9_then cX9_then 4 (some .int)  ∈ gws ∧ Cond.initialized yX9_then.cls ∈ gws ∧ (yX9_then.cls ≠ "java/lang/invoke/MethodHandle" ∧ yX9_then.cls ≠ "java/lang/invoke/VarHandle") ∧ ∀ sig, parseMethodDescriptor yX9_then.desc = some sig → 3 = sig.parameters.length := ⟨gws_in 1782 (by decide +kernel) rfl, gws_in 10 (by decide +kernel) rfl, by decide +kernel, fun sig h => by
  have e : (parseMethodDescriptor yX9_then.desc).map (fun s => s.parameters.length) = some 3 := by decide +kernel
  rw [h] at e; exact (Option.some.inj e).symm⟩
theorem vk_X9_then : VK yX9_then := ⟨gws_in 1780 (by decide +kernel) rfl, gws_in 1781 (by decide +kernel) rfl⟩
theorem lk_RL_204 : LK RL 204 yX9_then cX9_then 4 (some .int) 3 := ⟨gws_in 1779 (by decide +kernel) rfl, me_X9_then⟩
theorem me_L_worn : Cond.codeWith yL_worn cL_worn 5 (some .int) [(0, 10, 13, 18), (0, 10, 17, 13)] ∈ gws ∧ Cond.initialized yL_worn.cls ∈ gws ∧ (yL_worn.cls ≠ "java/lang/invoke/MethodHandle" ∧ yL_worn.cls ≠ "java/lang/invoke/VarHandle") ∧ ∀ sig, parseMethodDescriptor yL_worn.desc = some sig → 4 = sig.parameters.length := ⟨gws_in 931 (by decide +kernel) rfl, gws_in 0 (by decide +kernel) rfl, by decide +kernel, fun sig h => by
  have e : (parseMethodDescriptor yL_worn.desc).map (fun s => s.parameters.length) = some 4 := by decide +kernel
  rw [h] at e; exact (Option.some.inj e).symm⟩
theorem sk_L_worn : Cond.static yL_worn ∈ gws := gws_in 930 (by decide +kernel) rfl
theorem lkh_RL_205 : LKH RL 205 yL_worn cL_worn 5 (some .int) [(0, 10, 13, 18), (0, 10, 17, 13)] 4 := ⟨gws_in 929 (by decide +kernel) rfl, me_L_worn⟩
theorem me_X9_worn : Cond.code yX9_worn cX9_worn 3 (some .int)  ∈ gws ∧ Cond.initialized yX9_worn.cls ∈ gws ∧ (yX9_worn.cls ≠ "java/lang/invoke/MethodHandle" ∧ yX9_worn.cls ≠ "java/lang/invoke/VarHandle") ∧ ∀ sig, parseMethodDescriptor yX9_worn.desc = some sig → 2 = sig.parameters.length := ⟨gws_in 1802 (by decide +kernel) rfl, gws_in 10 (by decide +kernel) rfl, by decide +kernel, fun sig h => by
  have e : (parseMethodDescriptor yX9_worn.desc).map (fun s => s.parameters.length) = some 2 := by decide +kernel
  rw [h] at e; exact (Option.some.inj e).symm⟩
theorem vk_X9_worn : VK yX9_worn := ⟨gws_in 1800 (by decide +kernel) rfl, gws_in 1801 (by decide +kernel) rfl⟩
theorem lk_RL_207 : LK RL 207 yX9_worn cX9_worn 3 (some .int) 2 := ⟨gws_in 1799 (by decide +kernel) rfl, me_X9_worn⟩
theorem me_L_burst : Cond.codeWith yL_burst cL_burst 4 (some .int) [(0, 9, 12, 18)] ∈ gws ∧ Cond.initialized yL_burst.cls ∈ gws ∧ (yL_burst.cls ≠ "java/lang/invoke/MethodHandle" ∧ yL_burst.cls ≠ "java/lang/invoke/VarHandle") ∧ ∀ sig, parseMethodDescriptor yL_burst.desc = some sig → 3 = sig.parameters.length := ⟨gws_in 938 (by decide +kernel) rfl, gws_in 0 (by decide +kernel) rfl, by decide +kernel, fun sig h => by
  have e : (parseMethodDescriptor yL_burst.desc).map (fun s => s.parameters.length) = some 3 := by decide +kernel
  rw [h] at e; exact (Option.some.inj e).symm⟩
theorem sk_L_burst : Cond.static yL_burst ∈ gws := gws_in 937 (by decide +kernel) rfl
theorem lkh_RL_208 : LKH RL 208 yL_burst cL_burst 4 (some .int) [(0, 9, 12, 18)] 3 := ⟨gws_in 936 (by decide +kernel) rfl, me_L_burst⟩
theorem me_X9_burst : Cond.code yX9_burst cX9_burst 3 (some .int)  ∈ gws ∧ Cond.initialized yX9_burst.cls ∈ gws ∧ (yX9_burst.cls ≠ "java/lang/invoke/MethodHandle" ∧ yX9_burst.cls ≠ "java/lang/invoke/VarHandle") ∧ ∀ sig, parseMethodDescriptor yX9_burst.desc = some sig → 1 = sig.parameters.length := ⟨gws_in 1806 (by decide +kernel) rfl, gws_in 10 (by decide +kernel) rfl, by decide +kernel, fun sig h => by
  have e : (parseMethodDescriptor yX9_burst.desc).map (fun s => s.parameters.length) = some 1 := by decide +kernel
  rw [h] at e; exact (Option.some.inj e).symm⟩
theorem vk_X9_burst : VK yX9_burst := ⟨gws_in 1804 (by decide +kernel) rfl, gws_in 1805 (by decide +kernel) rfl⟩
theorem lk_RL_210 : LK RL 210 yX9_burst cX9_burst 3 (some .int) 1 := ⟨gws_in 1803 (by decide +kernel) rfl, me_X9_burst⟩
theorem me_L_wriggles : Cond.codeWith yL_wriggles cL_wriggles 4 (some .int) [(0, 9, 12, 18)] ∈ gws ∧ Cond.initialized yL_wriggles.cls ∈ gws ∧ (yL_wriggles.cls ≠ "java/lang/invoke/MethodHandle" ∧ yL_wriggles.cls ≠ "java/lang/invoke/VarHandle") ∧ ∀ sig, parseMethodDescriptor yL_wriggles.desc = some sig → 3 = sig.parameters.length := ⟨gws_in 953 (by decide +kernel) rfl, gws_in 0 (by decide +kernel) rfl, by decide +kernel, fun sig h => by
  have e : (parseMethodDescriptor yL_wriggles.desc).map (fun s => s.parameters.length) = some 3 := by decide +kernel
  rw [h] at e; exact (Option.some.inj e).symm⟩
theorem sk_L_wriggles : Cond.static yL_wriggles ∈ gws := gws_in 952 (by decide +kernel) rfl
theorem lkh_RL_211 : LKH RL 211 yL_wriggles cL_wriggles 4 (some .int) [(0, 9, 12, 18)] 3 := ⟨gws_in 951 (by decide +kernel) rfl, me_L_wriggles⟩
theorem me_X9_wriggles : Cond.code yX9_wriggles cX9_wriggles 3 (some .int)  ∈ gws ∧ Cond.initialized yX9_wriggles.cls ∈ gws ∧ (yX9_wriggles.cls ≠ "java/lang/invoke/MethodHandle" ∧ yX9_wriggles.cls ≠ "java/lang/invoke/VarHandle") ∧ ∀ sig, parseMethodDescriptor yX9_wriggles.desc = some sig → 1 = sig.parameters.length := ⟨gws_in 1814 (by decide +kernel) rfl, gws_in 10 (by decide +kernel) rfl, by decide +kernel, fun sig h => by
  have e : (parseMethodDescriptor yX9_wriggles.desc).map (fun s => s.parameters.length) = some 1 := by decide +kernel
  rw [h] at e; exact (Option.some.inj e).symm⟩
theorem vk_X9_wriggles : VK yX9_wriggles := ⟨gws_in 1812 (by decide +kernel) rfl, gws_in 1813 (by decide +kernel) rfl⟩
theorem lk_RL_213 : LK RL 213 yX9_wriggles cX9_wriggles 3 (some .int) 1 := ⟨gws_in 1811 (by decide +kernel) rfl, me_X9_wriggles⟩
theorem me_L_barefoot : Cond.codeWith yL_barefoot cL_barefoot 4 (some .int) [(0, 9, 12, 13)] ∈ gws ∧ Cond.initialized yL_barefoot.cls ∈ gws ∧ (yL_barefoot.cls ≠ "java/lang/invoke/MethodHandle" ∧ yL_barefoot.cls ≠ "java/lang/invoke/VarHandle") ∧ ∀ sig, parseMethodDescriptor yL_barefoot.desc = some sig → 3 = sig.parameters.length := ⟨gws_in 960 (by decide +kernel) rfl, gws_in 0 (by decide +kernel) rfl, by decide +kernel, fun sig h => by
  have e : (parseMethodDescriptor yL_barefoot.desc).map (fun s => s.parameters.length) = some 3 := by decide +kernel
  rw [h] at e; exact (Option.some.inj e).symm⟩
theorem sk_L_barefoot : Cond.static yL_barefoot ∈ gws := gws_in 959 (by decide +kernel) rfl
theorem lkh_RL_214 : LKH RL 214 yL_barefoot cL_barefoot 4 (some .int) [(0, 9, 12, 13)] 3 := ⟨gws_in 958 (by decide +kernel) rfl, me_L_barefoot⟩
theorem me_X9_barefoot : Cond.code yX9_barefoot cX9_barefoot 2 (some .int)  ∈ gws ∧ Cond.initialized yX9_barefoot.cls ∈ gws ∧ (yX9_barefoot.cls ≠ "java/lang/invoke/MethodHandle" ∧ yX9_barefoot.cls ≠ "java/lang/invoke/VarHandle") ∧ ∀ sig, parseMethodDescriptor yX9_barefoot.desc = some sig → 1 = sig.parameters.length := ⟨gws_in 1818 (by decide +kernel) rfl, gws_in 10 (by decide +kernel) rfl, by decide +kernel, fun sig h => by
  have e : (parseMethodDescriptor yX9_barefoot.desc).map (fun s => s.parameters.length) = some 1 := by decide +kernel
  rw [h] at e; exact (Option.some.inj e).symm⟩
theorem vk_X9_barefoot : VK yX9_barefoot := ⟨gws_in 1816 (by decide +kernel) rfl, gws_in 1817 (by decide +kernel) rfl⟩
theorem lk_RL_216 : LK RL 216 yX9_barefoot cX9_barefoot 2 (some .int) 1 := ⟨gws_in 1815 (by decide +kernel) rfl, me_X9_barefoot⟩
theorem me_L_last : Cond.codeWith yL_last cL_last 4 (some .int) [(0, 9, 12, 18)] ∈ gws ∧ Cond.initialized yL_last.cls ∈ gws ∧ (yL_last.cls ≠ "java/lang/invoke/MethodHandle" ∧ yL_last.cls ≠ "java/lang/invoke/VarHandle") ∧ ∀ sig, parseMethodDescriptor yL_last.desc = some sig → 3 = sig.parameters.length := ⟨gws_in 967 (by decide +kernel) rfl, gws_in 0 (by decide +kernel) rfl, by decide +kernel, fun sig h => by
  have e : (parseMethodDescriptor yL_last.desc).map (fun s => s.parameters.length) = some 3 := by decide +kernel
  rw [h] at e; exact (Option.some.inj e).symm⟩
theorem sk_L_last : Cond.static yL_last ∈ gws := gws_in 966 (by decide +kernel) rfl
theorem lkh_RL_217 : LKH RL 217 yL_last cL_last 4 (some .int) [(0, 9, 12, 18)] 3 := ⟨gws_in 965 (by decide +kernel) rfl, me_L_last⟩
theorem me_X9_last : Cond.code yX9_last cX9_last 6 (some .int)  ∈ gws ∧ Cond.initialized yX9_last.cls ∈ gws ∧ (yX9_last.cls ≠ "java/lang/invoke/MethodHandle" ∧ yX9_last.cls ≠ "java/lang/invoke/VarHandle") ∧ ∀ sig, parseMethodDescriptor yX9_last.desc = some sig → 1 = sig.parameters.length := ⟨gws_in 1822 (by decide +kernel) rfl, gws_in 10 (by decide +kernel) rfl, by decide +kernel, fun sig h => by
  have e : (parseMethodDescriptor yX9_last.desc).map (fun s => s.parameters.length) = some 1 := by decide +kernel
  rw [h] at e; exact (Option.some.inj e).symm⟩
theorem vk_X9_last : VK yX9_last := ⟨gws_in 1820 (by decide +kernel) rfl, gws_in 1821 (by decide +kernel) rfl⟩
theorem lk_RL_219 : LK RL 219 yX9_last cX9_last 6 (some .int) 1 := ⟨gws_in 1819 (by decide +kernel) rfl, me_X9_last⟩
theorem me_L_goes : Cond.codeWith yL_goes cL_goes 4 (some .int) [(0, 9, 12, 18)] ∈ gws ∧ Cond.initialized yL_goes.cls ∈ gws ∧ (yL_goes.cls ≠ "java/lang/invoke/MethodHandle" ∧ yL_goes.cls ≠ "java/lang/invoke/VarHandle") ∧ ∀ sig, parseMethodDescriptor yL_goes.desc = some sig → 3 = sig.parameters.length := ⟨gws_in 977 (by decide +kernel) rfl, gws_in 0 (by decide +kernel) rfl, by decide +kernel, fun sig h => by
  have e : (parseMethodDescriptor yL_goes.desc).map (fun s => s.parameters.length) = some 3 := by decide +kernel
  rw [h] at e; exact (Option.some.inj e).symm⟩
theorem sk_L_goes : Cond.static yL_goes ∈ gws := gws_in 976 (by decide +kernel) rfl
theorem lkh_RL_220 : LKH RL 220 yL_goes cL_goes 4 (some .int) [(0, 9, 12, 18)] 3 := ⟨gws_in 975 (by decide +kernel) rfl, me_L_goes⟩
theorem me_X9_goes : Cond.code yX9_goes cX9_goes 4 (some .int)  ∈ gws ∧ Cond.initialized yX9_goes.cls ∈ gws ∧ (yX9_goes.cls ≠ "java/lang/invoke/MethodHandle" ∧ yX9_goes.cls ≠ "java/lang/invoke/VarHandle") ∧ ∀ sig, parseMethodDescriptor yX9_goes.desc = some sig → 1 = sig.parameters.length := ⟨gws_in 1826 (by decide +kernel) rfl, gws_in 10 (by decide +kernel) rfl, by decide +kernel, fun sig h => by
  have e : (parseMethodDescriptor yX9_goes.desc).map (fun s => s.parameters.length) = some 1 := by decide +kernel
  rw [h] at e; exact (Option.some.inj e).symm⟩
theorem vk_X9_goes : VK yX9_goes := ⟨gws_in 1824 (by decide +kernel) rfl, gws_in 1825 (by decide +kernel) rfl⟩
theorem lk_RL_222 : LK RL 222 yX9_goes cX9_goes 4 (some .int) 1 := ⟨gws_in 1823 (by decide +kernel) rfl, me_X9_goes⟩
theorem me_L_match : Cond.codeWith yL_match cL_match 4 (some .int) [(0, 9, 12, 18)] ∈ gws ∧ Cond.initialized yL_match.cls ∈ gws ∧ (yL_match.cls ≠ "java/lang/invoke/MethodHandle" ∧ yL_match.cls ≠ "java/lang/invoke/VarHandle") ∧ ∀ sig, parseMethodDescriptor yL_match.desc = some sig → 3 = sig.parameters.length := ⟨gws_in 984 (by decide +kernel) rfl, gws_in 0 (by decide +kernel) rfl, by decide +kernel, fun sig h => by
  have e : (parseMethodDescriptor yL_match.desc).map (fun s => s.parameters.length) = some 3 := by decide +kernel
  rw [h] at e; exact (Option.some.inj e).symm⟩
theorem sk_L_match : Cond.static yL_match ∈ gws := gws_in 983 (by decide +kernel) rfl
theorem lkh_RL_223 : LKH RL 223 yL_match cL_match 4 (some .int) [(0, 9, 12, 18)] 3 := ⟨gws_in 982 (by decide +kernel) rfl, me_L_match⟩
theorem me_X9_match : Cond.code yX9_match cX9_match 3 (some .int)  ∈ gws ∧ Cond.initialized yX9_match.cls ∈ gws ∧ (yX9_match.cls ≠ "java/lang/invoke/MethodHandle" ∧ yX9_match.cls ≠ "java/lang/invoke/VarHandle") ∧ ∀ sig, parseMethodDescriptor yX9_match.desc = some sig → 1 = sig.parameters.length := ⟨gws_in 1834 (by decide +kernel) rfl, gws_in 10 (by decide +kernel) rfl, by decide +kernel, fun sig h => by
  have e : (parseMethodDescriptor yX9_match.desc).map (fun s => s.parameters.length) = some 1 := by decide +kernel
  rw [h] at e; exact (Option.some.inj e).symm⟩
theorem vk_X9_match : VK yX9_match := ⟨gws_in 1832 (by decide +kernel) rfl, gws_in 1833 (by decide +kernel) rfl⟩
theorem lk_RL_225 : LK RL 225 yX9_match cX9_match 3 (some .int) 1 := ⟨gws_in 1831 (by decide +kernel) rfl, me_X9_match⟩
theorem me_L_matched : Cond.codeWith yL_matched cL_matched 4 (some .int) [(0, 9, 12, 18)] ∈ gws ∧ Cond.initialized yL_matched.cls ∈ gws ∧ (yL_matched.cls ≠ "java/lang/invoke/MethodHandle" ∧ yL_matched.cls ≠ "java/lang/invoke/VarHandle") ∧ ∀ sig, parseMethodDescriptor yL_matched.desc = some sig → 3 = sig.parameters.length := ⟨gws_in 995 (by decide +kernel) rfl, gws_in 0 (by decide +kernel) rfl, by decide +kernel, fun sig h => by
  have e : (parseMethodDescriptor yL_matched.desc).map (fun s => s.parameters.length) = some 3 := by decide +kernel
  rw [h] at e; exact (Option.some.inj e).symm⟩
theorem sk_L_matched : Cond.static yL_matched ∈ gws := gws_in 994 (by decide +kernel) rfl
theorem lkh_RL_226 : LKH RL 226 yL_matched cL_matched 4 (some .int) [(0, 9, 12, 18)] 3 := ⟨gws_in 993 (by decide +kernel) rfl, me_L_matched⟩
theorem me_X9_matched : Cond.code yX9_matched cX9_matched 6 (some .int)  ∈ gws ∧ Cond.initialized yX9_matched.cls ∈ gws ∧ (yX9_matched.cls ≠ "java/lang/invoke/MethodHandle" ∧ yX9_matched.cls ≠ "java/lang/invoke/VarHandle") ∧ ∀ sig, parseMethodDescriptor yX9_matched.desc = some sig → 1 = sig.parameters.length := ⟨gws_in 1838 (by decide +kernel) rfl, gws_in 10 (by decide +kernel) rfl, by decide +kernel, fun sig h => by
  have e : (parseMethodDescriptor yX9_matched.desc).map (fun s => s.parameters.length) = some 1 := by decide +kernel
  rw [h] at e; exact (Option.some.inj e).symm⟩
theorem vk_X9_matched : VK yX9_matched := ⟨gws_in 1836 (by decide +kernel) rfl, gws_in 1837 (by decide +kernel) rfl⟩
theorem lk_RL_228 : LK RL 228 yX9_matched cX9_matched 6 (some .int) 1 := ⟨gws_in 1835 (by decide +kernel) rfl, me_X9_matched⟩
theorem me_L_trade : Cond.codeWith yL_trade cL_trade 4 (some .int) [(0, 9, 12, 18)] ∈ gws ∧ Cond.initialized yL_trade.cls ∈ gws ∧ (yL_trade.cls ≠ "java/lang/invoke/MethodHandle" ∧ yL_trade.cls ≠ "java/lang/invoke/VarHandle") ∧ ∀ sig, parseMethodDescriptor yL_trade.desc = some sig → 3 = sig.parameters.length := ⟨gws_in 1006 (by decide +kernel) rfl, gws_in 0 (by decide +kernel) rfl, by decide +kernel, fun sig h => by
  have e : (parseMethodDescriptor yL_trade.desc).map (fun s => s.parameters.length) = some 3 := by decide +kernel
  rw [h] at e; exact (Option.some.inj e).symm⟩
theorem sk_L_trade : Cond.static yL_trade ∈ gws := gws_in 1005 (by decide +kernel) rfl
theorem lkh_RL_229 : LKH RL 229 yL_trade cL_trade 4 (some .int) [(0, 9, 12, 18)] 3 := ⟨gws_in 1004 (by decide +kernel) rfl, me_L_trade⟩
theorem me_X9_trade : Cond.code yX9_trade cX9_trade 2 (some .int)  ∈ gws ∧ Cond.initialized yX9_trade.cls ∈ gws ∧ (yX9_trade.cls ≠ "java/lang/invoke/MethodHandle" ∧ yX9_trade.cls ≠ "java/lang/invoke/VarHandle") ∧ ∀ sig, parseMethodDescriptor yX9_trade.desc = some sig → 1 = sig.parameters.length := ⟨gws_in 1842 (by decide +kernel) rfl, gws_in 10 (by decide +kernel) rfl, by decide +kernel, fun sig h => by
  have e : (parseMethodDescriptor yX9_trade.desc).map (fun s => s.parameters.length) = some 1 := by decide +kernel
  rw [h] at e; exact (Option.some.inj e).symm⟩
theorem vk_X9_trade : VK yX9_trade := ⟨gws_in 1840 (by decide +kernel) rfl, gws_in 1841 (by decide +kernel) rfl⟩
theorem lk_RL_231 : LK RL 231 yX9_trade cX9_trade 2 (some .int) 1 := ⟨gws_in 1839 (by decide +kernel) rfl, me_X9_trade⟩
theorem me_L_toStuff : Cond.codeWith yL_toStuff cL_toStuff 5 (some .int) [(0, 10, 13, 18)] ∈ gws ∧ Cond.initialized yL_toStuff.cls ∈ gws ∧ (yL_toStuff.cls ≠ "java/lang/invoke/MethodHandle" ∧ yL_toStuff.cls ≠ "java/lang/invoke/VarHandle") ∧ ∀ sig, parseMethodDescriptor yL_toStuff.desc = some sig → 4 = sig.parameters.length := ⟨gws_in 1034 (by decide +kernel) rfl, gws_in 0 (by decide +kernel) rfl, by decide +kernel, fun sig h => by
  have e : (parseMethodDescriptor yL_toStuff.desc).map (fun s => s.parameters.length) = some 4 := by decide +kernel
  rw [h] at e; exact (Option.some.inj e).symm⟩
theorem sk_L_toStuff : Cond.static yL_toStuff ∈ gws := gws_in 1033 (by decide +kernel) rfl
theorem lkh_RL_232 : LKH RL 232 yL_toStuff cL_toStuff 5 (some .int) [(0, 10, 13, 18)] 4 := ⟨gws_in 1032 (by decide +kernel) rfl, me_L_toStuff⟩
theorem me_X9_toStuff : Cond.code yX9_toStuff cX9_toStuff 4 (some .int)  ∈ gws ∧ Cond.initialized yX9_toStuff.cls ∈ gws ∧ (yX9_toStuff.cls ≠ "java/lang/invoke/MethodHandle" ∧ yX9_toStuff.cls ≠ "java/lang/invoke/VarHandle") ∧ ∀ sig, parseMethodDescriptor yX9_toStuff.desc = some sig → 2 = sig.parameters.length := ⟨gws_in 1862 (by decide +kernel) rfl, gws_in 10 (by decide +kernel) rfl, by decide +kernel, fun sig h => by
  have e : (parseMethodDescriptor yX9_toStuff.desc).map (fun s => s.parameters.length) = some 2 := by decide +kernel
  rw [h] at e; exact (Option.some.inj e).symm⟩
theorem vk_X9_toStuff : VK yX9_toStuff := ⟨gws_in 1860 (by decide +kernel) rfl, gws_in 1861 (by decide +kernel) rfl⟩
theorem lk_RL_234 : LK RL 234 yX9_toStuff cX9_toStuff 4 (some .int) 2 := ⟨gws_in 1859 (by decide +kernel) rfl, me_X9_toStuff⟩
theorem me_L_toWait : Cond.codeWith yL_toWait cL_toWait 5 (some .int) [(0, 10, 13, 18)] ∈ gws ∧ Cond.initialized yL_toWait.cls ∈ gws ∧ (yL_toWait.cls ≠ "java/lang/invoke/MethodHandle" ∧ yL_toWait.cls ≠ "java/lang/invoke/VarHandle") ∧ ∀ sig, parseMethodDescriptor yL_toWait.desc = some sig → 4 = sig.parameters.length := ⟨gws_in 1041 (by decide +kernel) rfl, gws_in 0 (by decide +kernel) rfl, by decide +kernel, fun sig h => by
  have e : (parseMethodDescriptor yL_toWait.desc).map (fun s => s.parameters.length) = some 4 := by decide +kernel
  rw [h] at e; exact (Option.some.inj e).symm⟩
theorem sk_L_toWait : Cond.static yL_toWait ∈ gws := gws_in 1040 (by decide +kernel) rfl
theorem lkh_RL_235 : LKH RL 235 yL_toWait cL_toWait 5 (some .int) [(0, 10, 13, 18)] 4 := ⟨gws_in 1039 (by decide +kernel) rfl, me_L_toWait⟩
theorem me_X9_toWait : Cond.code yX9_toWait cX9_toWait 4 (some .int)  ∈ gws ∧ Cond.initialized yX9_toWait.cls ∈ gws ∧ (yX9_toWait.cls ≠ "java/lang/invoke/MethodHandle" ∧ yX9_toWait.cls ≠ "java/lang/invoke/VarHandle") ∧ ∀ sig, parseMethodDescriptor yX9_toWait.desc = some sig → 2 = sig.parameters.length := ⟨gws_in 1866 (by decide +kernel) rfl, gws_in 10 (by decide +kernel) rfl, by decide +kernel, fun sig h => by
  have e : (parseMethodDescriptor yX9_toWait.desc).map (fun s => s.parameters.length) = some 2 := by decide +kernel
  rw [h] at e; exact (Option.some.inj e).symm⟩
theorem vk_X9_toWait : VK yX9_toWait := ⟨gws_in 1864 (by decide +kernel) rfl, gws_in 1865 (by decide +kernel) rfl⟩
theorem lk_RL_237 : LK RL 237 yX9_toWait cX9_toWait 4 (some .int) 2 := ⟨gws_in 1863 (by decide +kernel) rfl, me_X9_toWait⟩
theorem me_L_round : Cond.codeWith yL_round cL_round 4 (some .int) [(0, 9, 12, 13)] ∈ gws ∧ Cond.initialized yL_round.cls ∈ gws ∧ (yL_round.cls ≠ "java/lang/invoke/MethodHandle" ∧ yL_round.cls ≠ "java/lang/invoke/VarHandle") ∧ ∀ sig, parseMethodDescriptor yL_round.desc = some sig → 3 = sig.parameters.length := ⟨gws_in 1048 (by decide +kernel) rfl, gws_in 0 (by decide +kernel) rfl, by decide +kernel, fun sig h => by
  have e : (parseMethodDescriptor yL_round.desc).map (fun s => s.parameters.length) = some 3 := by decide +kernel
  rw [h] at e; exact (Option.some.inj e).symm⟩
theorem sk_L_round : Cond.static yL_round ∈ gws := gws_in 1047 (by decide +kernel) rfl
theorem lkh_RL_238 : LKH RL 238 yL_round cL_round 4 (some .int) [(0, 9, 12, 13)] 3 := ⟨gws_in 1046 (by decide +kernel) rfl, me_L_round⟩
theorem me_X9_round : Cond.code yX9_round cX9_round 6 (some .int)  ∈ gws ∧ Cond.initialized yX9_round.cls ∈ gws ∧ (yX9_round.cls ≠ "java/lang/invoke/MethodHandle" ∧ yX9_round.cls ≠ "java/lang/invoke/VarHandle") ∧ ∀ sig, parseMethodDescriptor yX9_round.desc = some sig → 1 = sig.parameters.length := ⟨gws_in 1870 (by decide +kernel) rfl, gws_in 10 (by decide +kernel) rfl, by decide +kernel, fun sig h => by
  have e : (parseMethodDescriptor yX9_round.desc).map (fun s => s.parameters.length) = some 1 := by decide +kernel
  rw [h] at e; exact (Option.some.inj e).symm⟩
theorem vk_X9_round : VK yX9_round := ⟨gws_in 1868 (by decide +kernel) rfl, gws_in 1869 (by decide +kernel) rfl⟩
theorem lk_RL_240 : LK RL 240 yX9_round cX9_round 6 (some .int) 1 := ⟨gws_in 1867 (by decide +kernel) rfl, me_X9_round⟩
theorem me_L_see : Cond.codeWith yL_see cL_see 6 (some .int) [(0, 12, 15, 18)] ∈ gws ∧ Cond.initialized yL_see.cls ∈ gws ∧ (yL_see.cls ≠ "java/lang/invoke/MethodHandle" ∧ yL_see.cls ≠ "java/lang/invoke/VarHandle") ∧ ∀ sig, parseMethodDescriptor yL_see.desc = some sig → 5 = sig.parameters.length := ⟨gws_in 1057 (by decide +kernel) rfl, gws_in 0 (by decide +kernel) rfl, by decide +kernel, fun sig h => by
  have e : (parseMethodDescriptor yL_see.desc).map (fun s => s.parameters.length) = some 5 := by decide +kernel
  rw [h] at e; exact (Option.some.inj e).symm⟩
theorem sk_L_see : Cond.static yL_see ∈ gws := gws_in 1056 (by decide +kernel) rfl
theorem lkh_RL_241 : LKH RL 241 yL_see cL_see 6 (some .int) [(0, 12, 15, 18)] 5 := ⟨gws_in 1055 (by decide +kernel) rfl, me_L_see⟩
theorem me_X9_see : Cond.code yX9_see cX9_see 4 (some .int)  ∈ gws ∧ Cond.initialized yX9_see.cls ∈ gws ∧ (yX9_see.cls ≠ "java/lang/invoke/MethodHandle" ∧ yX9_see.cls ≠ "java/lang/invoke/VarHandle") ∧ ∀ sig, parseMethodDescriptor yX9_see.desc = some sig → 3 = sig.parameters.length := ⟨gws_in 1874 (by decide +kernel) rfl, gws_in 10 (by decide +kernel) rfl, by decide +kernel, fun sig h => by
  have e : (parseMethodDescriptor yX9_see.desc).map (fun s => s.parameters.length) = some 3 := by decide +kernel
  rw [h] at e; exact (Option.some.inj e).symm⟩
theorem vk_X9_see : VK yX9_see := ⟨gws_in 1872 (by decide +kernel) rfl, gws_in 1873 (by decide +kernel) rfl⟩
theorem lk_RL_243 : LK RL 243 yX9_see cX9_see 4 (some .int) 3 := ⟨gws_in 1871 (by decide +kernel) rfl, me_X9_see⟩
theorem me_X8_forget : Cond.code yX8_forget cX8_forget 1 none  ∈ gws ∧ Cond.initialized yX8_forget.cls ∈ gws ∧ (yX8_forget.cls ≠ "java/lang/invoke/MethodHandle" ∧ yX8_forget.cls ≠ "java/lang/invoke/VarHandle") ∧ ∀ sig, parseMethodDescriptor yX8_forget.desc = some sig → 0 = sig.parameters.length := ⟨gws_in 443 (by decide +kernel) rfl, gws_in 1 (by decide +kernel) rfl, by decide +kernel, fun sig h => by
  have e : (parseMethodDescriptor yX8_forget.desc).map (fun s => s.parameters.length) = some 0 := by decide +kernel
  rw [h] at e; exact (Option.some.inj e).symm⟩
theorem vk_X8_forget : VK yX8_forget := ⟨gws_in 441 (by decide +kernel) rfl, gws_in 442 (by decide +kernel) rfl⟩
theorem lk_RL_244 : LK RL 244 yX8_forget cX8_forget 1 none 0 := ⟨gws_in 440 (by decide +kernel) rfl, me_X8_forget⟩
theorem me_X9_forget : Cond.code yX9_forget cX9_forget 1 none  ∈ gws ∧ Cond.initialized yX9_forget.cls ∈ gws ∧ (yX9_forget.cls ≠ "java/lang/invoke/MethodHandle" ∧ yX9_forget.cls ≠ "java/lang/invoke/VarHandle") ∧ ∀ sig, parseMethodDescriptor yX9_forget.desc = some sig → 0 = sig.parameters.length := ⟨gws_in 1878 (by decide +kernel) rfl, gws_in 10 (by decide +kernel) rfl, by decide +kernel, fun sig h => by
  have e : (parseMethodDescriptor yX9_forget.desc).map (fun s => s.parameters.length) = some 0 := by decide +kernel
  rw [h] at e; exact (Option.some.inj e).symm⟩
theorem vk_X9_forget : VK yX9_forget := ⟨gws_in 1876 (by decide +kernel) rfl, gws_in 1877 (by decide +kernel) rfl⟩
theorem lk_RL_247 : LK RL 247 yX9_forget cX9_forget 1 none 0 := ⟨gws_in 1875 (by decide +kernel) rfl, me_X9_forget⟩
theorem me_L_large : Cond.codeWith yL_large cL_large 4 (some .int) [(0, 9, 12, 18)] ∈ gws ∧ Cond.initialized yL_large.cls ∈ gws ∧ (yL_large.cls ≠ "java/lang/invoke/MethodHandle" ∧ yL_large.cls ≠ "java/lang/invoke/VarHandle") ∧ ∀ sig, parseMethodDescriptor yL_large.desc = some sig → 3 = sig.parameters.length := ⟨gws_in 1068 (by decide +kernel) rfl, gws_in 0 (by decide +kernel) rfl, by decide +kernel, fun sig h => by
  have e : (parseMethodDescriptor yL_large.desc).map (fun s => s.parameters.length) = some 3 := by decide +kernel
  rw [h] at e; exact (Option.some.inj e).symm⟩
theorem sk_L_large : Cond.static yL_large ∈ gws := gws_in 1067 (by decide +kernel) rfl
theorem lkh_RL_248 : LKH RL 248 yL_large cL_large 4 (some .int) [(0, 9, 12, 18)] 3 := ⟨gws_in 1066 (by decide +kernel) rfl, me_L_large⟩
theorem me_X9_large : Cond.code yX9_large cX9_large 5 (some .int)  ∈ gws ∧ Cond.initialized yX9_large.cls ∈ gws ∧ (yX9_large.cls ≠ "java/lang/invoke/MethodHandle" ∧ yX9_large.cls ≠ "java/lang/invoke/VarHandle") ∧ ∀ sig, parseMethodDescriptor yX9_large.desc = some sig → 1 = sig.parameters.length := ⟨gws_in 1882 (by decide +kernel) rfl, gws_in 10 (by decide +kernel) rfl, by decide +kernel, fun sig h => by
  have e : (parseMethodDescriptor yX9_large.desc).map (fun s => s.parameters.length) = some 1 := by decide +kernel
  rw [h] at e; exact (Option.some.inj e).symm⟩
theorem vk_X9_large : VK yX9_large := ⟨gws_in 1880 (by decide +kernel) rfl, gws_in 1881 (by decide +kernel) rfl⟩
theorem lk_RL_250 : LK RL 250 yX9_large cX9_large 5 (some .int) 1 := ⟨gws_in 1879 (by decide +kernel) rfl, me_X9_large⟩
theorem me_L_next : Cond.codeWith yL_next cL_next 4 (some .int) [(0, 9, 12, 18)] ∈ gws ∧ Cond.initialized yL_next.cls ∈ gws ∧ (yL_next.cls ≠ "java/lang/invoke/MethodHandle" ∧ yL_next.cls ≠ "java/lang/invoke/VarHandle") ∧ ∀ sig, parseMethodDescriptor yL_next.desc = some sig → 3 = sig.parameters.length := ⟨gws_in 1113 (by decide +kernel) rfl, gws_in 0 (by decide +kernel) rfl, by decide +kernel, fun sig h => by
  have e : (parseMethodDescriptor yL_next.desc).map (fun s => s.parameters.length) = some 3 := by decide +kernel
  rw [h] at e; exact (Option.some.inj e).symm⟩
theorem sk_L_next : Cond.static yL_next ∈ gws := gws_in 1112 (by decide +kernel) rfl
theorem lkh_RL_251 : LKH RL 251 yL_next cL_next 4 (some .int) [(0, 9, 12, 18)] 3 := ⟨gws_in 1111 (by decide +kernel) rfl, me_L_next⟩
theorem me_X9_next : Cond.code yX9_next cX9_next 10 (some .int)  ∈ gws ∧ Cond.initialized yX9_next.cls ∈ gws ∧ (yX9_next.cls ≠ "java/lang/invoke/MethodHandle" ∧ yX9_next.cls ≠ "java/lang/invoke/VarHandle") ∧ ∀ sig, parseMethodDescriptor yX9_next.desc = some sig → 1 = sig.parameters.length := ⟨gws_in 1894 (by decide +kernel) rfl, gws_in 10 (by decide +kernel) rfl, by decide +kernel, fun sig h => by
  have e : (parseMethodDescriptor yX9_next.desc).map (fun s => s.parameters.length) = some 1 := by decide +kernel
  rw [h] at e; exact (Option.some.inj e).symm⟩
theorem vk_X9_next : VK yX9_next := ⟨gws_in 1892 (by decide +kernel) rfl, gws_in 1893 (by decide +kernel) rfl⟩
theorem lk_RL_253 : LK RL 253 yX9_next cX9_next 10 (some .int) 1 := ⟨gws_in 1891 (by decide +kernel) rfl, me_X9_next⟩
theorem me_L_byDamp : Cond.codeWith yL_byDamp cL_byDamp 6 (some .int) [(0, 12, 15, 18), (0, 12, 19, 13)] ∈ gws ∧ Cond.initialized yL_byDamp.cls ∈ gws ∧ (yL_byDamp.cls ≠ "java/lang/invoke/MethodHandle" ∧ yL_byDamp.cls ≠ "java/lang/invoke/VarHandle") ∧ ∀ sig, parseMethodDescriptor yL_byDamp.desc = some sig → 5 = sig.parameters.length := ⟨gws_in 1128 (by decide +kernel) rfl, gws_in 0 (by decide +kernel) rfl, by decide +kernel, fun sig h => by
  have e : (parseMethodDescriptor yL_byDamp.desc).map (fun s => s.parameters.length) = some 5 := by decide +kernel
  rw [h] at e; exact (Option.some.inj e).symm⟩
theorem sk_L_byDamp : Cond.static yL_byDamp ∈ gws := gws_in 1127 (by decide +kernel) rfl
theorem lkh_RL_254 : LKH RL 254 yL_byDamp cL_byDamp 6 (some .int) [(0, 12, 15, 18), (0, 12, 19, 13)] 5 := ⟨gws_in 1126 (by decide +kernel) rfl, me_L_byDamp⟩
theorem me_X9_byDamp : Cond.code yX9_byDamp cX9_byDamp 9 (some .int)  ∈ gws ∧ Cond.initialized yX9_byDamp.cls ∈ gws ∧ (yX9_byDamp.cls ≠ "java/lang/invoke/MethodHandle" ∧ yX9_byDamp.cls ≠ "java/lang/invoke/VarHandle") ∧ ∀ sig, parseMethodDescriptor yX9_byDamp.desc = some sig → 3 = sig.parameters.length := ⟨gws_in 1898 (by decide +kernel) rfl, gws_in 10 (by decide +kernel) rfl, by decide +kernel, fun sig h => by
  have e : (parseMethodDescriptor yX9_byDamp.desc).map (fun s => s.parameters.length) = some 3 := by decide +kernel
  rw [h] at e; exact (Option.some.inj e).symm⟩
theorem vk_X9_byDamp : VK yX9_byDamp := ⟨gws_in 1896 (by decide +kernel) rfl, gws_in 1897 (by decide +kernel) rfl⟩
theorem lk_RL_256 : LK RL 256 yX9_byDamp cX9_byDamp 9 (some .int) 3 := ⟨gws_in 1895 (by decide +kernel) rfl, me_X9_byDamp⟩
theorem me_L_game : Cond.codeWith yL_game cL_game 7 (some .int) [(0, 14, 17, 18), (0, 14, 21, 13)] ∈ gws ∧ Cond.initialized yL_game.cls ∈ gws ∧ (yL_game.cls ≠ "java/lang/invoke/MethodHandle" ∧ yL_game.cls ≠ "java/lang/invoke/VarHandle") ∧ ∀ sig, parseMethodDescriptor yL_game.desc = some sig → 6 = sig.parameters.length := ⟨gws_in 1143 (by decide +kernel) rfl, gws_in 0 (by decide +kernel) rfl, by decide +kernel, fun sig h => by
  have e : (parseMethodDescriptor yL_game.desc).map (fun s => s.parameters.length) = some 6 := by decide +kernel
  rw [h] at e; exact (Option.some.inj e).symm⟩
theorem sk_L_game : Cond.static yL_game ∈ gws := gws_in 1142 (by decide +kernel) rfl
theorem lkh_RL_257 : LKH RL 257 yL_game cL_game 7 (some .int) [(0, 14, 17, 18), (0, 14, 21, 13)] 6 := ⟨gws_in 1141 (by decide +kernel) rfl, me_L_game⟩
theorem me_X9_game : Cond.code yX9_game cX9_game 10 (some .int)  ∈ gws ∧ Cond.initialized yX9_game.cls ∈ gws ∧ (yX9_game.cls ≠ "java/lang/invoke/MethodHandle" ∧ yX9_game.cls ≠ "java/lang/invoke/VarHandle") ∧ ∀ sig, parseMethodDescriptor yX9_game.desc = some sig → 4 = sig.parameters.length := ⟨gws_in 1902 (by decide +kernel) rfl, gws_in 10 (by decide +kernel) rfl, by decide +kernel, fun sig h => by
  have e : (parseMethodDescriptor yX9_game.desc).map (fun s => s.parameters.length) = some 4 := by decide +kernel
  rw [h] at e; exact (Option.some.inj e).symm⟩
theorem vk_X9_game : VK yX9_game := ⟨gws_in 1900 (by decide +kernel) rfl, gws_in 1901 (by decide +kernel) rfl⟩
theorem lk_RL_260 : LK RL 260 yX9_game cX9_game 10 (some .int) 4 := ⟨gws_in 1899 (by decide +kernel) rfl, me_X9_game⟩
theorem me_L_years : Cond.codeWith yL_years cL_years 6 (some .int) [(0, 12, 15, 18), (0, 12, 19, 13)] ∈ gws ∧ Cond.initialized yL_years.cls ∈ gws ∧ (yL_years.cls ≠ "java/lang/invoke/MethodHandle" ∧ yL_years.cls ≠ "java/lang/invoke/VarHandle") ∧ ∀ sig, parseMethodDescriptor yL_years.desc = some sig → 5 = sig.parameters.length := ⟨gws_in 1163 (by decide +kernel) rfl, gws_in 0 (by decide +kernel) rfl, by decide +kernel, fun sig h => by
  have e : (parseMethodDescriptor yL_years.desc).map (fun s => s.parameters.length) = some 5 := by decide +kernel
  rw [h] at e; exact (Option.some.inj e).symm⟩
theorem sk_L_years : Cond.static yL_years ∈ gws := gws_in 1162 (by decide +kernel) rfl
theorem lkh_RL_261 : LKH RL 261 yL_years cL_years 6 (some .int) [(0, 12, 15, 18), (0, 12, 19, 13)] 5 := ⟨gws_in 1161 (by decide +kernel) rfl, me_L_years⟩
theorem me_X9_years : Cond.code yX9_years cX9_years 5 (some .int)  ∈ gws ∧ Cond.initialized yX9_years.cls ∈ gws ∧ (yX9_years.cls ≠ "java/lang/invoke/MethodHandle" ∧ yX9_years.cls ≠ "java/lang/invoke/VarHandle") ∧ ∀ sig, parseMethodDescriptor yX9_years.desc = some sig → 3 = sig.parameters.length := ⟨gws_in 1910 (by decide +kernel) rfl, gws_in 10 (by decide +kernel) rfl, by decide +kernel, fun sig h => by
  have e : (parseMethodDescriptor yX9_years.desc).map (fun s => s.parameters.length) = some 3 := by decide +kernel
  rw [h] at e; exact (Option.some.inj e).symm⟩
theorem vk_X9_years : VK yX9_years := ⟨gws_in 1908 (by decide +kernel) rfl, gws_in 1909 (by decide +kernel) rfl⟩
theorem lk_RL_263 : LK RL 263 yX9_years cX9_years 5 (some .int) 3 := ⟨gws_in 1907 (by decide +kernel) rfl, me_X9_years⟩
theorem me_L_heirs : Cond.codeWith yL_heirs cL_heirs 4 (some .int) [(0, 9, 12, 18)] ∈ gws ∧ Cond.initialized yL_heirs.cls ∈ gws ∧ (yL_heirs.cls ≠ "java/lang/invoke/MethodHandle" ∧ yL_heirs.cls ≠ "java/lang/invoke/VarHandle") ∧ ∀ sig, parseMethodDescriptor yL_heirs.desc = some sig → 3 = sig.parameters.length := ⟨gws_in 1187 (by decide +kernel) rfl, gws_in 0 (by decide +kernel) rfl, by decide +kernel, fun sig h => by
  have e : (parseMethodDescriptor yL_heirs.desc).map (fun s => s.parameters.length) = some 3 := by decide +kernel
  rw [h] at e; exact (Option.some.inj e).symm⟩
theorem sk_L_heirs : Cond.static yL_heirs ∈ gws := gws_in 1186 (by decide +kernel) rfl
theorem lkh_RL_264 : LKH RL 264 yL_heirs cL_heirs 4 (some .int) [(0, 9, 12, 18)] 3 := ⟨gws_in 1185 (by decide +kernel) rfl, me_L_heirs⟩
theorem me_X9_heirs : Cond.code yX9_heirs cX9_heirs 4 (some .int)  ∈ gws ∧ Cond.initialized yX9_heirs.cls ∈ gws ∧ (yX9_heirs.cls ≠ "java/lang/invoke/MethodHandle" ∧ yX9_heirs.cls ≠ "java/lang/invoke/VarHandle") ∧ ∀ sig, parseMethodDescriptor yX9_heirs.desc = some sig → 1 = sig.parameters.length := ⟨gws_in 1830 (by decide +kernel) rfl, gws_in 10 (by decide +kernel) rfl, by decide +kernel, fun sig h => by
  have e : (parseMethodDescriptor yX9_heirs.desc).map (fun s => s.parameters.length) = some 1 := by decide +kernel
  rw [h] at e; exact (Option.some.inj e).symm⟩
theorem vk_X9_heirs : VK yX9_heirs := ⟨gws_in 1828 (by decide +kernel) rfl, gws_in 1829 (by decide +kernel) rfl⟩
theorem lk_RL_266 : LK RL 266 yX9_heirs cX9_heirs 4 (some .int) 1 := ⟨gws_in 1827 (by decide +kernel) rfl, me_X9_heirs⟩
theorem me_L_toGrow : Cond.codeWith yL_toGrow cL_toGrow 5 (some .int) [(0, 10, 13, 18)] ∈ gws ∧ Cond.initialized yL_toGrow.cls ∈ gws ∧ (yL_toGrow.cls ≠ "java/lang/invoke/MethodHandle" ∧ yL_toGrow.cls ≠ "java/lang/invoke/VarHandle") ∧ ∀ sig, parseMethodDescriptor yL_toGrow.desc = some sig → 4 = sig.parameters.length := ⟨gws_in 1194 (by decide +kernel) rfl, gws_in 0 (by decide +kernel) rfl, by decide +kernel, fun sig h => by
  have e : (parseMethodDescriptor yL_toGrow.desc).map (fun s => s.parameters.length) = some 4 := by decide +kernel
  rw [h] at e; exact (Option.some.inj e).symm⟩
theorem sk_L_toGrow : Cond.static yL_toGrow ∈ gws := gws_in 1193 (by decide +kernel) rfl
theorem lkh_RL_267 : LKH RL 267 yL_toGrow cL_toGrow 5 (some .int) [(0, 10, 13, 18)] 4 := ⟨gws_in 1192 (by decide +kernel) rfl, me_L_toGrow⟩
theorem me_X9_toGrow : Cond.code yX9_toGrow cX9_toGrow 4 (some .int)  ∈ gws ∧ Cond.initialized yX9_toGrow.cls ∈ gws ∧ (yX9_toGrow.cls ≠ "java/lang/invoke/MethodHandle" ∧ yX9_toGrow.cls ≠ "java/lang/invoke/VarHandle") ∧ ∀ sig, parseMethodDescriptor yX9_toGrow.desc = some sig → 2 = sig.parameters.length := ⟨gws_in 1926 (by decide +kernel) rfl, gws_in 10 (by decide +kernel) rfl, by decide +kernel, fun sig h => by
  have e : (parseMethodDescriptor yX9_toGrow.desc).map (fun s => s.parameters.length) = some 2 := by decide +kernel
  rw [h] at e; exact (Option.some.inj e).symm⟩
theorem vk_X9_toGrow : VK yX9_toGrow := ⟨gws_in 1924 (by decide +kernel) rfl, gws_in 1925 (by decide +kernel) rfl⟩
theorem lk_RL_269 : LK RL 269 yX9_toGrow cX9_toGrow 4 (some .int) 2 := ⟨gws_in 1923 (by decide +kernel) rfl, me_X9_toGrow⟩
theorem me_L_paid : Cond.codeWith yL_paid cL_paid 4 (some .int) [(0, 9, 12, 13)] ∈ gws ∧ Cond.initialized yL_paid.cls ∈ gws ∧ (yL_paid.cls ≠ "java/lang/invoke/MethodHandle" ∧ yL_paid.cls ≠ "java/lang/invoke/VarHandle") ∧ ∀ sig, parseMethodDescriptor yL_paid.desc = some sig → 3 = sig.parameters.length := ⟨gws_in 1202 (by decide +kernel) rfl, gws_in 0 (by decide +kernel) rfl, by decide +kernel, fun sig h => by
  have e : (parseMethodDescriptor yL_paid.desc).map (fun s => s.parameters.length) = some 3 := by decide +kernel
  rw [h] at e; exact (Option.some.inj e).symm⟩
theorem sk_L_paid : Cond.static yL_paid ∈ gws := gws_in 1201 (by decide +kernel) rfl
theorem lkh_RL_270 : LKH RL 270 yL_paid cL_paid 4 (some .int) [(0, 9, 12, 13)] 3 := ⟨gws_in 1200 (by decide +kernel) rfl, me_L_paid⟩
theorem me_X9_paid : Cond.code yX9_paid cX9_paid 2 (some .int)  ∈ gws ∧ Cond.initialized yX9_paid.cls ∈ gws ∧ (yX9_paid.cls ≠ "java/lang/invoke/MethodHandle" ∧ yX9_paid.cls ≠ "java/lang/invoke/VarHandle") ∧ ∀ sig, parseMethodDescriptor yX9_paid.desc = some sig → 1 = sig.parameters.length := ⟨gws_in 1930 (by decide +kernel) rfl, gws_in 10 (by decide +kernel) rfl, by decide +kernel, fun sig h => by
  have e : (parseMethodDescriptor yX9_paid.desc).map (fun s => s.parameters.length) = some 1 := by decide +kernel
  rw [h] at e; exact (Option.some.inj e).symm⟩
theorem vk_X9_paid : VK yX9_paid := ⟨gws_in 1928 (by decide +kernel) rfl, gws_in 1929 (by decide +kernel) rfl⟩
theorem lk_RL_272 : LK RL 272 yX9_paid cX9_paid 2 (some .int) 1 := ⟨gws_in 1927 (by decide +kernel) rfl, me_X9_paid⟩
theorem me_L_wornest : Cond.codeWith yL_wornest cL_wornest 4 (some .int) [(0, 9, 12, 13)] ∈ gws ∧ Cond.initialized yL_wornest.cls ∈ gws ∧ (yL_wornest.cls ≠ "java/lang/invoke/MethodHandle" ∧ yL_wornest.cls ≠ "java/lang/invoke/VarHandle") ∧ ∀ sig, parseMethodDescriptor yL_wornest.desc = some sig → 3 = sig.parameters.length := ⟨gws_in 1209 (by decide +kernel) rfl, gws_in 0 (by decide +kernel) rfl, by decide +kernel, fun sig h => by
  have e : (parseMethodDescriptor yL_wornest.desc).map (fun s => s.parameters.length) = some 3 := by decide +kernel
  rw [h] at e; exact (Option.some.inj e).symm⟩
theorem sk_L_wornest : Cond.static yL_wornest ∈ gws := gws_in 1208 (by decide +kernel) rfl
theorem lkh_RL_273 : LKH RL 273 yL_wornest cL_wornest 4 (some .int) [(0, 9, 12, 13)] 3 := ⟨gws_in 1207 (by decide +kernel) rfl, me_L_wornest⟩
theorem me_X9_wornest : Cond.code yX9_wornest cX9_wornest 4 (some .int)  ∈ gws ∧ Cond.initialized yX9_wornest.cls ∈ gws ∧ (yX9_wornest.cls ≠ "java/lang/invoke/MethodHandle" ∧ yX9_wornest.cls ≠ "java/lang/invoke/VarHandle") ∧ ∀ sig, parseMethodDescriptor yX9_wornest.desc = some sig → 1 = sig.parameters.length := ⟨gws_in 1934 (by decide +kernel) rfl, gws_in 10 (by decide +kernel) rfl, by decide +kernel, fun sig h => by
  have e : (parseMethodDescriptor yX9_wornest.desc).map (fun s => s.parameters.length) = some 1 := by decide +kernel
  rw [h] at e; exact (Option.some.inj e).symm⟩
theorem vk_X9_wornest : VK yX9_wornest := ⟨gws_in 1932 (by decide +kernel) rfl, gws_in 1933 (by decide +kernel) rfl⟩
theorem lk_RL_275 : LK RL 275 yX9_wornest cX9_wornest 4 (some .int) 1 := ⟨gws_in 1931 (by decide +kernel) rfl, me_X9_wornest⟩
theorem me_L_dampest : Cond.codeWith yL_dampest cL_dampest 4 (some .int) [(0, 9, 12, 13)] ∈ gws ∧ Cond.initialized yL_dampest.cls ∈ gws ∧ (yL_dampest.cls ≠ "java/lang/invoke/MethodHandle" ∧ yL_dampest.cls ≠ "java/lang/invoke/VarHandle") ∧ ∀ sig, parseMethodDescriptor yL_dampest.desc = some sig → 3 = sig.parameters.length := ⟨gws_in 1219 (by decide +kernel) rfl, gws_in 0 (by decide +kernel) rfl, by decide +kernel, fun sig h => by
  have e : (parseMethodDescriptor yL_dampest.desc).map (fun s => s.parameters.length) = some 3 := by decide +kernel
  rw [h] at e; exact (Option.some.inj e).symm⟩
theorem sk_L_dampest : Cond.static yL_dampest ∈ gws := gws_in 1218 (by decide +kernel) rfl
theorem lkh_RL_276 : LKH RL 276 yL_dampest cL_dampest 4 (some .int) [(0, 9, 12, 13)] 3 := ⟨gws_in 1217 (by decide +kernel) rfl, me_L_dampest⟩
theorem me_X9_dampest : Cond.code yX9_dampest cX9_dampest 6 (some .int)  ∈ gws ∧ Cond.initialized yX9_dampest.cls ∈ gws ∧ (yX9_dampest.cls ≠ "java/lang/invoke/MethodHandle" ∧ yX9_dampest.cls ≠ "java/lang/invoke/VarHandle") ∧ ∀ sig, parseMethodDescriptor yX9_dampest.desc = some sig → 1 = sig.parameters.length := ⟨gws_in 1938 (by decide +kernel) rfl, gws_in 10 (by decide +kernel) rfl, by decide +kernel, fun sig h => by
  have e : (parseMethodDescriptor yX9_dampest.desc).map (fun s => s.parameters.length) = some 1 := by decide +kernel
  rw [h] at e; exact (Option.some.inj e).symm⟩
theorem vk_X9_dampest : VK yX9_dampest := ⟨gws_in 1936 (by decide +kernel) rfl, gws_in 1937 (by decide +kernel) rfl⟩
theorem lk_RL_278 : LK RL 278 yX9_dampest cX9_dampest 6 (some .int) 1 := ⟨gws_in 1935 (by decide +kernel) rfl, me_X9_dampest⟩
theorem me_L_kept : Cond.codeWith yL_kept cL_kept 4 (some .int) [(0, 9, 12, 13)] ∈ gws ∧ Cond.initialized yL_kept.cls ∈ gws ∧ (yL_kept.cls ≠ "java/lang/invoke/MethodHandle" ∧ yL_kept.cls ≠ "java/lang/invoke/VarHandle") ∧ ∀ sig, parseMethodDescriptor yL_kept.desc = some sig → 3 = sig.parameters.length := ⟨gws_in 1227 (by decide +kernel) rfl, gws_in 0 (by decide +kernel) rfl, by decide +kernel, fun sig h => by
  have e : (parseMethodDescriptor yL_kept.desc).map (fun s => s.parameters.length) = some 3 := by decide +kernel
  rw [h] at e; exact (Option.some.inj e).symm⟩
theorem sk_L_kept : Cond.static yL_kept ∈ gws := gws_in 1226 (by decide +kernel) rfl
theorem lkh_RL_279 : LKH RL 279 yL_kept cL_kept 4 (some .int) [(0, 9, 12, 13)] 3 := ⟨gws_in 1225 (by decide +kernel) rfl, me_L_kept⟩
theorem me_X9_kept : Cond.code yX9_kept cX9_kept 4 (some .int)  ∈ gws ∧ Cond.initialized yX9_kept.cls ∈ gws ∧ (yX9_kept.cls ≠ "java/lang/invoke/MethodHandle" ∧ yX9_kept.cls ≠ "java/lang/invoke/VarHandle") ∧ ∀ sig, parseMethodDescriptor yX9_kept.desc = some sig → 1 = sig.parameters.length := ⟨gws_in 1942 (by decide +kernel) rfl, gws_in 10 (by decide +kernel) rfl, by decide +kernel, fun sig h => by
  have e : (parseMethodDescriptor yX9_kept.desc).map (fun s => s.parameters.length) = some 1 := by decide +kernel
  rw [h] at e; exact (Option.some.inj e).symm⟩
theorem vk_X9_kept : VK yX9_kept := ⟨gws_in 1940 (by decide +kernel) rfl, gws_in 1941 (by decide +kernel) rfl⟩
theorem lk_RL_281 : LK RL 281 yX9_kept cX9_kept 4 (some .int) 1 := ⟨gws_in 1939 (by decide +kernel) rfl, me_X9_kept⟩
theorem me_L_sorest : Cond.codeWith yL_sorest cL_sorest 4 (some .int) [(0, 9, 12, 13)] ∈ gws ∧ Cond.initialized yL_sorest.cls ∈ gws ∧ (yL_sorest.cls ≠ "java/lang/invoke/MethodHandle" ∧ yL_sorest.cls ≠ "java/lang/invoke/VarHandle") ∧ ∀ sig, parseMethodDescriptor yL_sorest.desc = some sig → 3 = sig.parameters.length := ⟨gws_in 1234 (by decide +kernel) rfl, gws_in 0 (by decide +kernel) rfl, by decide +kernel, fun sig h => by
  have e : (parseMethodDescriptor yL_sorest.desc).map (fun s => s.parameters.length) = some 3 := by decide +kernel
  rw [h] at e; exact (Option.some.inj e).symm⟩
theorem sk_L_sorest : Cond.static yL_sorest ∈ gws := gws_in 1233 (by decide +kernel) rfl
theorem lkh_RL_282 : LKH RL 282 yL_sorest cL_sorest 4 (some .int) [(0, 9, 12, 13)] 3 := ⟨gws_in 1232 (by decide +kernel) rfl, me_L_sorest⟩
theorem me_X9_sorest : Cond.code yX9_sorest cX9_sorest 4 (some .int)  ∈ gws ∧ Cond.initialized yX9_sorest.cls ∈ gws ∧ (yX9_sorest.cls ≠ "java/lang/invoke/MethodHandle" ∧ yX9_sorest.cls ≠ "java/lang/invoke/VarHandle") ∧ ∀ sig, parseMethodDescriptor yX9_sorest.desc = some sig → 1 = sig.parameters.length := ⟨gws_in 1946 (by decide +kernel) rfl, gws_in 10 (by decide +kernel) rfl, by decide +kernel, fun sig h => by
  have e : (parseMethodDescriptor yX9_sorest.desc).map (fun s => s.parameters.length) = some 1 := by decide +kernel
  rw [h] at e; exact (Option.some.inj e).symm⟩
theorem vk_X9_sorest : VK yX9_sorest := ⟨gws_in 1944 (by decide +kernel) rfl, gws_in 1945 (by decide +kernel) rfl⟩
theorem lk_RL_284 : LK RL 284 yX9_sorest cX9_sorest 4 (some .int) 1 := ⟨gws_in 1943 (by decide +kernel) rfl, me_X9_sorest⟩
theorem me_L_eased : Cond.codeWith yL_eased cL_eased 6 (some .int) [(0, 12, 15, 18), (0, 12, 19, 13)] ∈ gws ∧ Cond.initialized yL_eased.cls ∈ gws ∧ (yL_eased.cls ≠ "java/lang/invoke/MethodHandle" ∧ yL_eased.cls ≠ "java/lang/invoke/VarHandle") ∧ ∀ sig, parseMethodDescriptor yL_eased.desc = some sig → 5 = sig.parameters.length := ⟨gws_in 1241 (by decide +kernel) rfl, gws_in 0 (by decide +kernel) rfl, by decide +kernel, fun sig h => by
  have e : (parseMethodDescriptor yL_eased.desc).map (fun s => s.parameters.length) = some 5 := by decide +kernel
  rw [h] at e; exact (Option.some.inj e).symm⟩
theorem sk_L_eased : Cond.static yL_eased ∈ gws := gws_in 1240 (by decide +kernel) rfl
theorem lkh_RL_285 : LKH RL 285 yL_eased cL_eased 6 (some .int) [(0, 12, 15, 18), (0, 12, 19, 13)] 5 := ⟨gws_in 1239 (by decide +kernel) rfl, me_L_eased⟩
theorem me_X9_eased : Cond.code yX9_eased cX9_eased 8 (some .int)  ∈ gws ∧ Cond.initialized yX9_eased.cls ∈ gws ∧ (yX9_eased.cls ≠ "java/lang/invoke/MethodHandle" ∧ yX9_eased.cls ≠ "java/lang/invoke/VarHandle") ∧ ∀ sig, parseMethodDescriptor yX9_eased.desc = some sig → 3 = sig.parameters.length := ⟨gws_in 1950 (by decide +kernel) rfl, gws_in 10 (by decide +kernel) rfl, by decide +kernel, fun sig h => by
  have e : (parseMethodDescriptor yX9_eased.desc).map (fun s => s.parameters.length) = some 3 := by decide +kernel
  rw [h] at e; exact (Option.some.inj e).symm⟩
theorem vk_X9_eased : VK yX9_eased := ⟨gws_in 1948 (by decide +kernel) rfl, gws_in 1949 (by decide +kernel) rfl⟩
theorem lk_RL_287 : LK RL 287 yX9_eased cX9_eased 8 (some .int) 3 := ⟨gws_in 1947 (by decide +kernel) rfl, me_X9_eased⟩
theorem me_L_free : Cond.codeWith yL_free cL_free 4 (some .int) [(0, 9, 12, 18)] ∈ gws ∧ Cond.initialized yL_free.cls ∈ gws ∧ (yL_free.cls ≠ "java/lang/invoke/MethodHandle" ∧ yL_free.cls ≠ "java/lang/invoke/VarHandle") ∧ ∀ sig, parseMethodDescriptor yL_free.desc = some sig → 3 = sig.parameters.length := ⟨gws_in 1248 (by decide +kernel) rfl, gws_in 0 (by decide +kernel) rfl, by decide +kernel, fun sig h => by
  have e : (parseMethodDescriptor yL_free.desc).map (fun s => s.parameters.length) = some 3 := by decide +kernel
  rw [h] at e; exact (Option.some.inj e).symm⟩
theorem sk_L_free : Cond.static yL_free ∈ gws := gws_in 1247 (by decide +kernel) rfl
theorem lkh_RL_288 : LKH RL 288 yL_free cL_free 4 (some .int) [(0, 9, 12, 18)] 3 := ⟨gws_in 1246 (by decide +kernel) rfl, me_L_free⟩
theorem me_X9_free : Cond.code yX9_free cX9_free 4 (some .int)  ∈ gws ∧ Cond.initialized yX9_free.cls ∈ gws ∧ (yX9_free.cls ≠ "java/lang/invoke/MethodHandle" ∧ yX9_free.cls ≠ "java/lang/invoke/VarHandle") ∧ ∀ sig, parseMethodDescriptor yX9_free.desc = some sig → 1 = sig.parameters.length := ⟨gws_in 1954 (by decide +kernel) rfl, gws_in 10 (by decide +kernel) rfl, by decide +kernel, fun sig h => by
  have e : (parseMethodDescriptor yX9_free.desc).map (fun s => s.parameters.length) = some 1 := by decide +kernel
  rw [h] at e; exact (Option.some.inj e).symm⟩
theorem vk_X9_free : VK yX9_free := ⟨gws_in 1952 (by decide +kernel) rfl, gws_in 1953 (by decide +kernel) rfl⟩
theorem lk_RL_290 : LK RL 290 yX9_free cX9_free 4 (some .int) 1 := ⟨gws_in 1951 (by decide +kernel) rfl, me_X9_free⟩
theorem me_L_larger : Cond.codeWith yL_larger cL_larger 4 (some .int) [(0, 9, 12, 18)] ∈ gws ∧ Cond.initialized yL_larger.cls ∈ gws ∧ (yL_larger.cls ≠ "java/lang/invoke/MethodHandle" ∧ yL_larger.cls ≠ "java/lang/invoke/VarHandle") ∧ ∀ sig, parseMethodDescriptor yL_larger.desc = some sig → 3 = sig.parameters.length := ⟨gws_in 1255 (by decide +kernel) rfl, gws_in 0 (by decide +kernel) rfl, by decide +kernel, fun sig h => by
  have e : (parseMethodDescriptor yL_larger.desc).map (fun s => s.parameters.length) = some 3 := by decide +kernel
  rw [h] at e; exact (Option.some.inj e).symm⟩
theorem sk_L_larger : Cond.static yL_larger ∈ gws := gws_in 1254 (by decide +kernel) rfl
theorem lkh_RL_291 : LKH RL 291 yL_larger cL_larger 4 (some .int) [(0, 9, 12, 18)] 3 := ⟨gws_in 1253 (by decide +kernel) rfl, me_L_larger⟩
theorem me_X9_larger : Cond.code yX9_larger cX9_larger 4 (some .int)  ∈ gws ∧ Cond.initialized yX9_larger.cls ∈ gws ∧ (yX9_larger.cls ≠ "java/lang/invoke/MethodHandle" ∧ yX9_larger.cls ≠ "java/lang/invoke/VarHandle") ∧ ∀ sig, parseMethodDescriptor yX9_larger.desc = some sig → 1 = sig.parameters.length := ⟨gws_in 1958 (by decide +kernel) rfl, gws_in 10 (by decide +kernel) rfl, by decide +kernel, fun sig h => by
  have e : (parseMethodDescriptor yX9_larger.desc).map (fun s => s.parameters.length) = some 1 := by decide +kernel
  rw [h] at e; exact (Option.some.inj e).symm⟩
theorem vk_X9_larger : VK yX9_larger := ⟨gws_in 1956 (by decide +kernel) rfl, gws_in 1957 (by decide +kernel) rfl⟩
theorem lk_RL_293 : LK RL 293 yX9_larger cX9_larger 4 (some .int) 1 := ⟨gws_in 1955 (by decide +kernel) rfl, me_X9_larger⟩
theorem me_L_wide : Cond.codeWith yL_wide cL_wide 4 (some .int) [(0, 9, 12, 13)] ∈ gws ∧ Cond.initialized yL_wide.cls ∈ gws ∧ (yL_wide.cls ≠ "java/lang/invoke/MethodHandle" ∧ yL_wide.cls ≠ "java/lang/invoke/VarHandle") ∧ ∀ sig, parseMethodDescriptor yL_wide.desc = some sig → 3 = sig.parameters.length := ⟨gws_in 1262 (by decide +kernel) rfl, gws_in 0 (by decide +kernel) rfl, by decide +kernel, fun sig h => by
  have e : (parseMethodDescriptor yL_wide.desc).map (fun s => s.parameters.length) = some 3 := by decide +kernel
  rw [h] at e; exact (Option.some.inj e).symm⟩
theorem sk_L_wide : Cond.static yL_wide ∈ gws := gws_in 1261 (by decide +kernel) rfl
theorem lkh_RL_294 : LKH RL 294 yL_wide cL_wide 4 (some .int) [(0, 9, 12, 13)] 3 := ⟨gws_in 1260 (by decide +kernel) rfl, me_L_wide⟩
theorem me_X9_wide : Cond.code yX9_wide cX9_wide 4 (some .int)  ∈ gws ∧ Cond.initialized yX9_wide.cls ∈ gws ∧ (yX9_wide.cls ≠ "java/lang/invoke/MethodHandle" ∧ yX9_wide.cls ≠ "java/lang/invoke/VarHandle") ∧ ∀ sig, parseMethodDescriptor yX9_wide.desc = some sig → 1 = sig.parameters.length := ⟨gws_in 1962 (by decide +kernel) rfl, gws_in 10 (by decide +kernel) rfl, by decide +kernel, fun sig h => by
  have e : (parseMethodDescriptor yX9_wide.desc).map (fun s => s.parameters.length) = some 1 := by decide +kernel
  rw [h] at e; exact (Option.some.inj e).symm⟩
theorem vk_X9_wide : VK yX9_wide := ⟨gws_in 1960 (by decide +kernel) rfl, gws_in 1961 (by decide +kernel) rfl⟩
theorem lk_RL_296 : LK RL 296 yX9_wide cX9_wide 4 (some .int) 1 := ⟨gws_in 1959 (by decide +kernel) rfl, me_X9_wide⟩
theorem me_L_endures : Cond.codeWith yL_endures cL_endures 5 (some .int) [(0, 10, 13, 18)] ∈ gws ∧ Cond.initialized yL_endures.cls ∈ gws ∧ (yL_endures.cls ≠ "java/lang/invoke/MethodHandle" ∧ yL_endures.cls ≠ "java/lang/invoke/VarHandle") ∧ ∀ sig, parseMethodDescriptor yL_endures.desc = some sig → 4 = sig.parameters.length := ⟨gws_in 1270 (by decide +kernel) rfl, gws_in 0 (by decide +kernel) rfl, by decide +kernel, fun sig h => by
  have e : (parseMethodDescriptor yL_endures.desc).map (fun s => s.parameters.length) = some 4 := by decide +kernel
  rw [h] at e; exact (Option.some.inj e).symm⟩
theorem sk_L_endures : Cond.static yL_endures ∈ gws := gws_in 1269 (by decide +kernel) rfl
theorem lkh_RL_297 : LKH RL 297 yL_endures cL_endures 5 (some .int) [(0, 10, 13, 18)] 4 := ⟨gws_in 1268 (by decide +kernel) rfl, me_L_endures⟩
theorem me_X9_endures : Cond.code yX9_endures cX9_endures 5 (some .int)  ∈ gws ∧ Cond.initialized yX9_endures.cls ∈ gws ∧ (yX9_endures.cls ≠ "java/lang/invoke/MethodHandle" ∧ yX9_endures.cls ≠ "java/lang/invoke/VarHandle") ∧ ∀ sig, parseMethodDescriptor yX9_endures.desc = some sig → 2 = sig.parameters.length := ⟨gws_in 1966 (by decide +kernel) rfl, gws_in 10 (by decide +kernel) rfl, by decide +kernel, fun sig h => by
  have e : (parseMethodDescriptor yX9_endures.desc).map (fun s => s.parameters.length) = some 2 := by decide +kernel
  rw [h] at e; exact (Option.some.inj e).symm⟩
theorem vk_X9_endures : VK yX9_endures := ⟨gws_in 1964 (by decide +kernel) rfl, gws_in 1965 (by decide +kernel) rfl⟩
theorem lk_RL_299 : LK RL 299 yX9_endures cX9_endures 5 (some .int) 2 := ⟨gws_in 1963 (by decide +kernel) rfl, me_X9_endures⟩
theorem me_L_ringed : Cond.codeWith yL_ringed cL_ringed 4 (some .int) [(0, 9, 12, 18)] ∈ gws ∧ Cond.initialized yL_ringed.cls ∈ gws ∧ (yL_ringed.cls ≠ "java/lang/invoke/MethodHandle" ∧ yL_ringed.cls ≠ "java/lang/invoke/VarHandle") ∧ ∀ sig, parseMethodDescriptor yL_ringed.desc = some sig → 3 = sig.parameters.length := ⟨gws_in 1277 (by decide +kernel) rfl, gws_in 0 (by decide +kernel) rfl, by decide +kernel, fun sig h => by
  have e : (parseMethodDescriptor yL_ringed.desc).map (fun s => s.parameters.length) = some 3 := by decide +kernel
  rw [h] at e; exact (Option.some.inj e).symm⟩
theorem sk_L_ringed : Cond.static yL_ringed ∈ gws := gws_in 1276 (by decide +kernel) rfl
theorem lkh_RL_300 : LKH RL 300 yL_ringed cL_ringed 4 (some .int) [(0, 9, 12, 18)] 3 := ⟨gws_in 1275 (by decide +kernel) rfl, me_L_ringed⟩
theorem me_X9_ringed : Cond.code yX9_ringed cX9_ringed 2 (some .int)  ∈ gws ∧ Cond.initialized yX9_ringed.cls ∈ gws ∧ (yX9_ringed.cls ≠ "java/lang/invoke/MethodHandle" ∧ yX9_ringed.cls ≠ "java/lang/invoke/VarHandle") ∧ ∀ sig, parseMethodDescriptor yX9_ringed.desc = some sig → 1 = sig.parameters.length := ⟨gws_in 1858 (by decide +kernel) rfl, gws_in 10 (by decide +kernel) rfl, by decide +kernel, fun sig h => by
  have e : (parseMethodDescriptor yX9_ringed.desc).map (fun s => s.parameters.length) = some 1 := by decide +kernel
  rw [h] at e; exact (Option.some.inj e).symm⟩
theorem vk_X9_ringed : VK yX9_ringed := ⟨gws_in 1856 (by decide +kernel) rfl, gws_in 1857 (by decide +kernel) rfl⟩
theorem lk_RL_302 : LK RL 302 yX9_ringed cX9_ringed 2 (some .int) 1 := ⟨gws_in 1855 (by decide +kernel) rfl, me_X9_ringed⟩
theorem me_X8_image : Cond.code yX8_image cX8_image 1 none  ∈ gws ∧ Cond.initialized yX8_image.cls ∈ gws ∧ (yX8_image.cls ≠ "java/lang/invoke/MethodHandle" ∧ yX8_image.cls ≠ "java/lang/invoke/VarHandle") ∧ ∀ sig, parseMethodDescriptor yX8_image.desc = some sig → 0 = sig.parameters.length := ⟨gws_in 451 (by decide +kernel) rfl, gws_in 1 (by decide +kernel) rfl, by decide +kernel, fun sig h => by
  have e : (parseMethodDescriptor yX8_image.desc).map (fun s => s.parameters.length) = some 0 := by decide +kernel
  rw [h] at e; exact (Option.some.inj e).symm⟩
theorem vk_X8_image : VK yX8_image := ⟨gws_in 449 (by decide +kernel) rfl, gws_in 450 (by decide +kernel) rfl⟩
theorem lk_RL_303 : LK RL 303 yX8_image cX8_image 1 none 0 := ⟨gws_in 448 (by decide +kernel) rfl, me_X8_image⟩
theorem me_X9_image : Cond.code yX9_image cX9_image 2 none  ∈ gws ∧ Cond.initialized yX9_image.cls ∈ gws ∧ (yX9_image.cls ≠ "java/lang/invoke/MethodHandle" ∧ yX9_image.cls ≠ "java/lang/invoke/VarHandle") ∧ ∀ sig, parseMethodDescriptor yX9_image.desc = some sig → 0 = sig.parameters.length := ⟨gws_in 1970 (by decide +kernel) rfl, gws_in 10 (by decide +kernel) rfl, by decide +kernel, fun sig h => by
  have e : (parseMethodDescriptor yX9_image.desc).map (fun s => s.parameters.length) = some 0 := by decide +kernel
  rw [h] at e; exact (Option.some.inj e).symm⟩
theorem vk_X9_image : VK yX9_image := ⟨gws_in 1968 (by decide +kernel) rfl, gws_in 1969 (by decide +kernel) rfl⟩
theorem lk_RL_306 : LK RL 306 yX9_image cX9_image 2 none 0 := ⟨gws_in 1967 (by decide +kernel) rfl, me_X9_image⟩
theorem me_X8_restore : Cond.code yX8_restore cX8_restore 1 (some .boolean)  ∈ gws ∧ Cond.initialized yX8_restore.cls ∈ gws ∧ (yX8_restore.cls ≠ "java/lang/invoke/MethodHandle" ∧ yX8_restore.cls ≠ "java/lang/invoke/VarHandle") ∧ ∀ sig, parseMethodDescriptor yX8_restore.desc = some sig → 0 = sig.parameters.length := ⟨gws_in 465 (by decide +kernel) rfl, gws_in 1 (by decide +kernel) rfl, by decide +kernel, fun sig h => by
  have e : (parseMethodDescriptor yX8_restore.desc).map (fun s => s.parameters.length) = some 0 := by decide +kernel
  rw [h] at e; exact (Option.some.inj e).symm⟩
theorem vk_X8_restore : VK yX8_restore := ⟨gws_in 463 (by decide +kernel) rfl, gws_in 464 (by decide +kernel) rfl⟩
theorem lk_RL_307 : LK RL 307 yX8_restore cX8_restore 1 (some .boolean) 0 := ⟨gws_in 462 (by decide +kernel) rfl, me_X8_restore⟩
theorem me_X9_restore : Cond.code yX9_restore cX9_restore 2 (some .boolean)  ∈ gws ∧ Cond.initialized yX9_restore.cls ∈ gws ∧ (yX9_restore.cls ≠ "java/lang/invoke/MethodHandle" ∧ yX9_restore.cls ≠ "java/lang/invoke/VarHandle") ∧ ∀ sig, parseMethodDescriptor yX9_restore.desc = some sig → 0 = sig.parameters.length := ⟨gws_in 1974 (by decide +kernel) rfl, gws_in 10 (by decide +kernel) rfl, by decide +kernel, fun sig h => by
  have e : (parseMethodDescriptor yX9_restore.desc).map (fun s => s.parameters.length) = some 0 := by decide +kernel
  rw [h] at e; exact (Option.some.inj e).symm⟩
theorem vk_X9_restore : VK yX9_restore := ⟨gws_in 1972 (by decide +kernel) rfl, gws_in 1973 (by decide +kernel) rfl⟩
theorem lk_RL_311 : LK RL 311 yX9_restore cX9_restore 2 (some .boolean) 0 := ⟨gws_in 1971 (by decide +kernel) rfl, me_X9_restore⟩
