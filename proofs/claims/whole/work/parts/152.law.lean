abbrev M_L_law : Mx := (RL, yL_law, cL_law, 4, (some .boolean), 10, 240, 600000, 7302250)
def eF (hf : HP) : Unit → Option Value × HP := fun _ => (some (.int 1), hf)
def LH (i : Int32) : List (Nat × Value) := [(0, .ref 2), (1, .ref 3), (2, .ref 23), (3, .int i)]
theorem sh_2 (ρ : Rh) : (shS ρ)[2]? = some (20, ρ.2.2) := rfl
theorem wd_80 : Cond.classLink "SoldNewsLaw" 7 "SoldNews" ∈ wB := wB_in 80 (by decide +kernel) (by decide +kernel)
theorem wd_81 : Cond.instantiable "SoldNews" 14 ∈ wB := wB_in 81 (by decide +kernel) (by decide +kernel)
theorem lkc_L_7 : LkC RL 7 11 := ⟨_, _, _, clk11, wd_80, wd_81, wd_66, (fun k hk => by match k, hk with | 0, _ => exact Or.inr (Or.inr (Or.inr (Or.inl ⟨_, rfl⟩))) | 1, _ => exact Or.inr (Or.inr (Or.inr (Or.inl ⟨_, rfl⟩))) | 2, _ => exact Or.inr (Or.inr (Or.inr (Or.inl ⟨_, rfl⟩))) | 3, _ => exact Or.inr (Or.inr (Or.inl rfl)) | 4, _ => exact Or.inr (Or.inr (Or.inr (Or.inl ⟨_, rfl⟩))) | 5, _ => exact Or.inr (Or.inr (Or.inr (Or.inr ⟨_, rfl⟩))) | 6, _ => exact Or.inl rfl | 7, _ => exact Or.inl rfl | 8, _ => exact Or.inr (Or.inr (Or.inr (Or.inl ⟨_, rfl⟩))) | 9, _ => exact Or.inr (Or.inr (Or.inr (Or.inl ⟨_, rfl⟩))) | 10, _ => exact Or.inr (Or.inr (Or.inr (Or.inl ⟨_, rfl⟩))) | 11, _ => exact Or.inr (Or.inr (Or.inr (Or.inr ⟨_, rfl⟩))) | 12, _ => exact Or.inr (Or.inr (Or.inr (Or.inr ⟨_, rfl⟩))) | 13, _ => exact Or.inr (Or.inr (Or.inr (Or.inr ⟨_, rfl⟩))) | k + 14, h => exact absurd h (by omega))⟩
theorem wd_816 : Cond.classLink "SoldNewsLaw" 10 "SoldNewsModel" ∈ wB := wB_in 816 (by decide +kernel) (by decide +kernel)
theorem wd_817 : Cond.instantiable "SoldNewsModel" 32 ∈ wB := wB_in 817 (by decide +kernel) (by decide +kernel)
theorem lkc_L_10 : LkC RL 10 12 := ⟨_, _, _, clk12, wd_816, wd_817, wd_73, (fun k hk => by match k, hk with | 0, _ => exact Or.inr (Or.inr (Or.inr (Or.inr ⟨_, rfl⟩))) | 1, _ => exact Or.inl rfl | 2, _ => exact Or.inl rfl | 3, _ => exact Or.inl rfl | 4, _ => exact Or.inl rfl | 5, _ => exact Or.inr (Or.inr (Or.inr (Or.inr ⟨_, rfl⟩))) | 6, _ => exact Or.inr (Or.inr (Or.inr (Or.inr ⟨_, rfl⟩))) | 7, _ => exact Or.inl rfl | 8, _ => exact Or.inl rfl | 9, _ => exact Or.inl rfl | 10, _ => exact Or.inl rfl | 11, _ => exact Or.inl rfl | 12, _ => exact Or.inl rfl | 13, _ => exact Or.inr (Or.inr (Or.inr (Or.inr ⟨_, rfl⟩))) | 14, _ => exact Or.inr (Or.inr (Or.inr (Or.inr ⟨_, rfl⟩))) | 15, _ => exact Or.inl rfl | 16, _ => exact Or.inr (Or.inr (Or.inr (Or.inr ⟨_, rfl⟩))) | 17, _ => exact Or.inr (Or.inr (Or.inr (Or.inr ⟨_, rfl⟩))) | 18, _ => exact Or.inl rfl | 19, _ => exact Or.inr (Or.inr (Or.inr (Or.inr ⟨_, rfl⟩))) | 20, _ => exact Or.inr (Or.inr (Or.inr (Or.inr ⟨_, rfl⟩))) | 21, _ => exact Or.inr (Or.inl rfl) | 22, _ => exact Or.inr (Or.inl rfl) | 23, _ => exact Or.inl rfl | 24, _ => exact Or.inl rfl | 25, _ => exact Or.inr (Or.inr (Or.inr (Or.inr ⟨_, rfl⟩))) | 26, _ => exact Or.inl rfl | 27, _ => exact Or.inl rfl | 28, _ => exact Or.inr (Or.inl rfl) | 29, _ => exact Or.inr (Or.inr (Or.inr (Or.inr ⟨_, rfl⟩))) | 30, _ => exact Or.inl rfl | 31, _ => exact Or.inr (Or.inl rfl) | k + 32, h => exact absurd h (by omega))⟩
theorem wd_82 : Cond.methodLink "SoldNewsLaw" 9 yX11_init ∈ wB := wB_in 82 (by decide +kernel) (by decide +kernel)
theorem wd_83 : Cond.instanceMethod yX11_init ∈ wB := wB_in 83 (by decide +kernel) (by decide +kernel)
theorem wd_84 : Cond.code yX11_init cX11_init 1 Option.none ∈ wB := wB_in 84 (by decide +kernel) (by decide +kernel)
theorem lki_L_9 : LkI RL 9 M_X11_init 0 := ⟨⟨Or.inl wd_82, wd_83, wd_66, wd_84, rfl, rfl⟩, by decide, by decide, by decide +kernel⟩
theorem wd_818 : Cond.methodLink "SoldNewsLaw" 12 yX12_init ∈ wB := wB_in 818 (by decide +kernel) (by decide +kernel)
theorem wd_819 : Cond.instanceMethod yX12_init ∈ wB := wB_in 819 (by decide +kernel) (by decide +kernel)
theorem wd_820 : Cond.code yX12_init cX12_init 1 Option.none ∈ wB := wB_in 820 (by decide +kernel) (by decide +kernel)
theorem lki_L_12 : LkI RL 12 M_X12_init 0 := ⟨⟨Or.inl wd_818, wd_819, wd_73, wd_820, rfl, rfl⟩, by decide, by decide, by decide +kernel⟩
theorem wd_1229 : Cond.constantLong "SoldNewsLaw" 13 4294967295 ∈ wB := wB_in 1229 (by decide +kernel) (by decide +kernel)
theorem wd_268 : Cond.methodLink "SoldNewsLaw" 15 yX11_letters ∈ wB := wB_in 268 (by decide +kernel) (by decide +kernel)
theorem wd_269 : Cond.instanceMethod yX11_letters ∈ wB := wB_in 269 (by decide +kernel) (by decide +kernel)
theorem wd_270 : Cond.selects "SoldNews" yX11_letters yX11_letters ∈ wB := wB_in 270 (by decide +kernel) (by decide +kernel)
theorem wd_271 : Cond.code yX11_letters cX11_letters 4 (some .int) ∈ wB := wB_in 271 (by decide +kernel) (by decide +kernel)
theorem lk_L_15 : LkV RL 15 M_X11_letters 1 := ⟨⟨wd_268, wd_269, wd_270, wd_66, wd_271⟩, rfl, by decide, by decide, by decide +kernel⟩
theorem wd_919 : Cond.methodLink "SoldNewsLaw" 19 yX12_letters ∈ wB := wB_in 919 (by decide +kernel) (by decide +kernel)
theorem wd_920 : Cond.instanceMethod yX12_letters ∈ wB := wB_in 920 (by decide +kernel) (by decide +kernel)
theorem wd_921 : Cond.selects "SoldNewsModel" yX12_letters yX12_letters ∈ wB := wB_in 921 (by decide +kernel) (by decide +kernel)
theorem wd_922 : Cond.code yX12_letters cX12_letters 9 (some .int) ∈ wB := wB_in 922 (by decide +kernel) (by decide +kernel)
theorem lk_L_19 : LkV RL 19 M_X12_letters 1 := ⟨⟨wd_919, wd_920, wd_921, wd_73, wd_922⟩, rfl, by decide, by decide, by decide +kernel⟩
theorem wd_283 : Cond.methodLink "SoldNewsLaw" 20 yX11_blank ∈ wB := wB_in 283 (by decide +kernel) (by decide +kernel)
theorem wd_284 : Cond.instanceMethod yX11_blank ∈ wB := wB_in 284 (by decide +kernel) (by decide +kernel)
theorem wd_285 : Cond.selects "SoldNews" yX11_blank yX11_blank ∈ wB := wB_in 285 (by decide +kernel) (by decide +kernel)
theorem wd_286 : Cond.code yX11_blank cX11_blank 2 (some .int) ∈ wB := wB_in 286 (by decide +kernel) (by decide +kernel)
theorem lk_L_20 : LkV RL 20 M_X11_blank 0 := ⟨⟨wd_283, wd_284, wd_285, wd_66, wd_286⟩, rfl, by decide, by decide, by decide +kernel⟩
theorem wd_924 : Cond.methodLink "SoldNewsLaw" 24 yX12_blank ∈ wB := wB_in 924 (by decide +kernel) (by decide +kernel)
theorem wd_925 : Cond.instanceMethod yX12_blank ∈ wB := wB_in 925 (by decide +kernel) (by decide +kernel)
theorem wd_926 : Cond.selects "SoldNewsModel" yX12_blank yX12_blank ∈ wB := wB_in 926 (by decide +kernel) (by decide +kernel)
theorem wd_927 : Cond.code yX12_blank cX12_blank 2 (some .int) ∈ wB := wB_in 927 (by decide +kernel) (by decide +kernel)
theorem lk_L_24 : LkV RL 24 M_X12_blank 0 := ⟨⟨wd_924, wd_925, wd_926, wd_73, wd_927⟩, rfl, by decide, by decide, by decide +kernel⟩
theorem wd_287 : Cond.methodLink "SoldNewsLaw" 25 yX11_fault ∈ wB := wB_in 287 (by decide +kernel) (by decide +kernel)
theorem wd_288 : Cond.instanceMethod yX11_fault ∈ wB := wB_in 288 (by decide +kernel) (by decide +kernel)
theorem wd_289 : Cond.selects "SoldNews" yX11_fault yX11_fault ∈ wB := wB_in 289 (by decide +kernel) (by decide +kernel)
theorem wd_290 : Cond.code yX11_fault cX11_fault 1 (some .int) ∈ wB := wB_in 290 (by decide +kernel) (by decide +kernel)
theorem lk_L_25 : LkV RL 25 M_X11_fault 0 := ⟨⟨wd_287, wd_288, wd_289, wd_66, wd_290⟩, rfl, by decide, by decide, by decide +kernel⟩
theorem wd_928 : Cond.methodLink "SoldNewsLaw" 28 yX12_fault ∈ wB := wB_in 928 (by decide +kernel) (by decide +kernel)
theorem wd_929 : Cond.instanceMethod yX12_fault ∈ wB := wB_in 929 (by decide +kernel) (by decide +kernel)
theorem wd_930 : Cond.selects "SoldNewsModel" yX12_fault yX12_fault ∈ wB := wB_in 930 (by decide +kernel) (by decide +kernel)
theorem wd_931 : Cond.code yX12_fault cX12_fault 1 (some .int) ∈ wB := wB_in 931 (by decide +kernel) (by decide +kernel)
theorem lk_L_28 : LkV RL 28 M_X12_fault 0 := ⟨⟨wd_928, wd_929, wd_930, wd_73, wd_931⟩, rfl, by decide, by decide, by decide +kernel⟩
theorem wd_311 : Cond.methodLink "SoldNewsLaw" 29 yX11_market ∈ wB := wB_in 311 (by decide +kernel) (by decide +kernel)
theorem wd_312 : Cond.instanceMethod yX11_market ∈ wB := wB_in 312 (by decide +kernel) (by decide +kernel)
theorem wd_313 : Cond.selects "SoldNews" yX11_market yX11_market ∈ wB := wB_in 313 (by decide +kernel) (by decide +kernel)
theorem wd_314 : Cond.code yX11_market cX11_market 2 (some .int) ∈ wB := wB_in 314 (by decide +kernel) (by decide +kernel)
theorem lk_L_29 : LkV RL 29 M_X11_market 0 := ⟨⟨wd_311, wd_312, wd_313, wd_66, wd_314⟩, rfl, by decide, by decide, by decide +kernel⟩
theorem wd_958 : Cond.methodLink "SoldNewsLaw" 32 yX12_market ∈ wB := wB_in 958 (by decide +kernel) (by decide +kernel)
theorem wd_959 : Cond.instanceMethod yX12_market ∈ wB := wB_in 959 (by decide +kernel) (by decide +kernel)
theorem wd_960 : Cond.selects "SoldNewsModel" yX12_market yX12_market ∈ wB := wB_in 960 (by decide +kernel) (by decide +kernel)
theorem wd_961 : Cond.code yX12_market cX12_market 2 (some .int) ∈ wB := wB_in 961 (by decide +kernel) (by decide +kernel)
theorem lk_L_32 : LkV RL 32 M_X12_market 0 := ⟨⟨wd_958, wd_959, wd_960, wd_73, wd_961⟩, rfl, by decide, by decide, by decide +kernel⟩
theorem wd_319 : Cond.methodLink "SoldNewsLaw" 33 yX11_told ∈ wB := wB_in 319 (by decide +kernel) (by decide +kernel)
theorem wd_320 : Cond.instanceMethod yX11_told ∈ wB := wB_in 320 (by decide +kernel) (by decide +kernel)
theorem wd_321 : Cond.selects "SoldNews" yX11_told yX11_told ∈ wB := wB_in 321 (by decide +kernel) (by decide +kernel)
theorem wd_322 : Cond.code yX11_told cX11_told 3 (some .int) ∈ wB := wB_in 322 (by decide +kernel) (by decide +kernel)
theorem lk_L_33 : LkV RL 33 M_X11_told 2 := ⟨⟨wd_319, wd_320, wd_321, wd_66, wd_322⟩, rfl, by decide, by decide, by decide +kernel⟩
theorem wd_962 : Cond.methodLink "SoldNewsLaw" 37 yX12_told ∈ wB := wB_in 962 (by decide +kernel) (by decide +kernel)
theorem wd_963 : Cond.instanceMethod yX12_told ∈ wB := wB_in 963 (by decide +kernel) (by decide +kernel)
theorem wd_964 : Cond.selects "SoldNewsModel" yX12_told yX12_told ∈ wB := wB_in 964 (by decide +kernel) (by decide +kernel)
theorem wd_965 : Cond.code yX12_told cX12_told 3 (some .int) ∈ wB := wB_in 965 (by decide +kernel) (by decide +kernel)
theorem lk_L_37 : LkV RL 37 M_X12_told 2 := ⟨⟨wd_962, wd_963, wd_964, wd_73, wd_965⟩, rfl, by decide, by decide, by decide +kernel⟩
theorem wd_335 : Cond.methodLink "SoldNewsLaw" 38 yX11_buyer ∈ wB := wB_in 335 (by decide +kernel) (by decide +kernel)
theorem wd_336 : Cond.instanceMethod yX11_buyer ∈ wB := wB_in 336 (by decide +kernel) (by decide +kernel)
theorem wd_337 : Cond.selects "SoldNews" yX11_buyer yX11_buyer ∈ wB := wB_in 337 (by decide +kernel) (by decide +kernel)
theorem wd_338 : Cond.code yX11_buyer cX11_buyer 4 (some .int) ∈ wB := wB_in 338 (by decide +kernel) (by decide +kernel)
theorem lk_L_38 : LkV RL 38 M_X11_buyer 2 := ⟨⟨wd_335, wd_336, wd_337, wd_66, wd_338⟩, rfl, by decide, by decide, by decide +kernel⟩
theorem wd_970 : Cond.methodLink "SoldNewsLaw" 41 yX12_buyer ∈ wB := wB_in 970 (by decide +kernel) (by decide +kernel)
theorem wd_971 : Cond.instanceMethod yX12_buyer ∈ wB := wB_in 971 (by decide +kernel) (by decide +kernel)
theorem wd_972 : Cond.selects "SoldNewsModel" yX12_buyer yX12_buyer ∈ wB := wB_in 972 (by decide +kernel) (by decide +kernel)
theorem wd_973 : Cond.code yX12_buyer cX12_buyer 3 (some .int) ∈ wB := wB_in 973 (by decide +kernel) (by decide +kernel)
theorem lk_L_41 : LkV RL 41 M_X12_buyer 2 := ⟨⟨wd_970, wd_971, wd_972, wd_73, wd_973⟩, rfl, by decide, by decide, by decide +kernel⟩
theorem wd_349 : Cond.methodLink "SoldNewsLaw" 42 yX11_change ∈ wB := wB_in 349 (by decide +kernel) (by decide +kernel)
theorem wd_350 : Cond.instanceMethod yX11_change ∈ wB := wB_in 350 (by decide +kernel) (by decide +kernel)
theorem wd_351 : Cond.selects "SoldNews" yX11_change yX11_change ∈ wB := wB_in 351 (by decide +kernel) (by decide +kernel)
theorem wd_352 : Cond.code yX11_change cX11_change 5 (some .int) ∈ wB := wB_in 352 (by decide +kernel) (by decide +kernel)
theorem lk_L_42 : LkV RL 42 M_X11_change 3 := ⟨⟨wd_349, wd_350, wd_351, wd_66, wd_352⟩, rfl, by decide, by decide, by decide +kernel⟩
theorem wd_976 : Cond.methodLink "SoldNewsLaw" 46 yX12_change ∈ wB := wB_in 976 (by decide +kernel) (by decide +kernel)
theorem wd_977 : Cond.instanceMethod yX12_change ∈ wB := wB_in 977 (by decide +kernel) (by decide +kernel)
theorem wd_978 : Cond.selects "SoldNewsModel" yX12_change yX12_change ∈ wB := wB_in 978 (by decide +kernel) (by decide +kernel)
theorem wd_979 : Cond.code yX12_change cX12_change 5 (some .int) ∈ wB := wB_in 979 (by decide +kernel) (by decide +kernel)
theorem lk_L_46 : LkV RL 46 M_X12_change 3 := ⟨⟨wd_976, wd_977, wd_978, wd_73, wd_979⟩, rfl, by decide, by decide, by decide +kernel⟩
theorem wd_373 : Cond.methodLink "SoldNewsLaw" 47 yX11_news ∈ wB := wB_in 373 (by decide +kernel) (by decide +kernel)
theorem wd_374 : Cond.instanceMethod yX11_news ∈ wB := wB_in 374 (by decide +kernel) (by decide +kernel)
theorem wd_375 : Cond.selects "SoldNews" yX11_news yX11_news ∈ wB := wB_in 375 (by decide +kernel) (by decide +kernel)
theorem wd_376 : Cond.code yX11_news cX11_news 3 (some .int) ∈ wB := wB_in 376 (by decide +kernel) (by decide +kernel)
theorem lk_L_47 : LkV RL 47 M_X11_news 2 := ⟨⟨wd_373, wd_374, wd_375, wd_66, wd_376⟩, rfl, by decide, by decide, by decide +kernel⟩
theorem wd_984 : Cond.methodLink "SoldNewsLaw" 50 yX12_news ∈ wB := wB_in 984 (by decide +kernel) (by decide +kernel)
theorem wd_985 : Cond.instanceMethod yX12_news ∈ wB := wB_in 985 (by decide +kernel) (by decide +kernel)
theorem wd_986 : Cond.selects "SoldNewsModel" yX12_news yX12_news ∈ wB := wB_in 986 (by decide +kernel) (by decide +kernel)
theorem wd_987 : Cond.code yX12_news cX12_news 3 (some .int) ∈ wB := wB_in 987 (by decide +kernel) (by decide +kernel)
theorem lk_L_50 : LkV RL 50 M_X12_news 2 := ⟨⟨wd_984, wd_985, wd_986, wd_73, wd_987⟩, rfl, by decide, by decide, by decide +kernel⟩
theorem wd_440 : Cond.methodLink "SoldNewsLaw" 51 yX11_as ∈ wB := wB_in 440 (by decide +kernel) (by decide +kernel)
theorem wd_441 : Cond.instanceMethod yX11_as ∈ wB := wB_in 441 (by decide +kernel) (by decide +kernel)
theorem wd_442 : Cond.selects "SoldNews" yX11_as yX11_as ∈ wB := wB_in 442 (by decide +kernel) (by decide +kernel)
theorem wd_443 : Cond.code yX11_as cX11_as 4 (some .int) ∈ wB := wB_in 443 (by decide +kernel) (by decide +kernel)
theorem lk_L_51 : LkV RL 51 M_X11_as 2 := ⟨⟨wd_440, wd_441, wd_442, wd_66, wd_443⟩, rfl, by decide, by decide, by decide +kernel⟩
theorem wd_990 : Cond.methodLink "SoldNewsLaw" 54 yX12_as ∈ wB := wB_in 990 (by decide +kernel) (by decide +kernel)
theorem wd_991 : Cond.instanceMethod yX12_as ∈ wB := wB_in 991 (by decide +kernel) (by decide +kernel)
theorem wd_992 : Cond.selects "SoldNewsModel" yX12_as yX12_as ∈ wB := wB_in 992 (by decide +kernel) (by decide +kernel)
theorem wd_993 : Cond.code yX12_as cX12_as 4 (some .int) ∈ wB := wB_in 993 (by decide +kernel) (by decide +kernel)
theorem lk_L_54 : LkV RL 54 M_X12_as 2 := ⟨⟨wd_990, wd_991, wd_992, wd_73, wd_993⟩, rfl, by decide, by decide, by decide +kernel⟩
theorem wd_457 : Cond.methodLink "SoldNewsLaw" 55 yX11_heard ∈ wB := wB_in 457 (by decide +kernel) (by decide +kernel)
theorem wd_458 : Cond.instanceMethod yX11_heard ∈ wB := wB_in 458 (by decide +kernel) (by decide +kernel)
theorem wd_459 : Cond.selects "SoldNews" yX11_heard yX11_heard ∈ wB := wB_in 459 (by decide +kernel) (by decide +kernel)
theorem wd_460 : Cond.code yX11_heard cX11_heard 5 (some .long) ∈ wB := wB_in 460 (by decide +kernel) (by decide +kernel)
theorem lk_L_55 : LkV RL 55 M_X11_heard 3 := ⟨⟨wd_457, wd_458, wd_459, wd_66, wd_460⟩, rfl, by decide, by decide, by decide +kernel⟩
theorem wd_998 : Cond.methodLink "SoldNewsLaw" 59 yX12_heard ∈ wB := wB_in 998 (by decide +kernel) (by decide +kernel)
theorem wd_999 : Cond.instanceMethod yX12_heard ∈ wB := wB_in 999 (by decide +kernel) (by decide +kernel)
theorem wd_1000 : Cond.selects "SoldNewsModel" yX12_heard yX12_heard ∈ wB := wB_in 1000 (by decide +kernel) (by decide +kernel)
theorem wd_1001 : Cond.code yX12_heard cX12_heard 5 (some .long) ∈ wB := wB_in 1001 (by decide +kernel) (by decide +kernel)
theorem lk_L_59 : LkV RL 59 M_X12_heard 3 := ⟨⟨wd_998, wd_999, wd_1000, wd_73, wd_1001⟩, rfl, by decide, by decide, by decide +kernel⟩
theorem wd_546 : Cond.methodLink "SoldNewsLaw" 60 yX11_edge ∈ wB := wB_in 546 (by decide +kernel) (by decide +kernel)
theorem wd_547 : Cond.instanceMethod yX11_edge ∈ wB := wB_in 547 (by decide +kernel) (by decide +kernel)
theorem wd_548 : Cond.selects "SoldNews" yX11_edge yX11_edge ∈ wB := wB_in 548 (by decide +kernel) (by decide +kernel)
theorem wd_549 : Cond.code yX11_edge cX11_edge 5 (some .long) ∈ wB := wB_in 549 (by decide +kernel) (by decide +kernel)
theorem lk_L_60 : LkV RL 60 M_X11_edge 3 := ⟨⟨wd_546, wd_547, wd_548, wd_66, wd_549⟩, rfl, by decide, by decide, by decide +kernel⟩
theorem wd_1044 : Cond.methodLink "SoldNewsLaw" 63 yX12_edge ∈ wB := wB_in 1044 (by decide +kernel) (by decide +kernel)
theorem wd_1045 : Cond.instanceMethod yX12_edge ∈ wB := wB_in 1045 (by decide +kernel) (by decide +kernel)
theorem wd_1046 : Cond.selects "SoldNewsModel" yX12_edge yX12_edge ∈ wB := wB_in 1046 (by decide +kernel) (by decide +kernel)
theorem wd_1047 : Cond.code yX12_edge cX12_edge 6 (some .long) ∈ wB := wB_in 1047 (by decide +kernel) (by decide +kernel)
theorem lk_L_63 : LkV RL 63 M_X12_edge 3 := ⟨⟨wd_1044, wd_1045, wd_1046, wd_73, wd_1047⟩, rfl, by decide, by decide, by decide +kernel⟩
theorem wd_554 : Cond.methodLink "SoldNewsLaw" 64 yX11_rests ∈ wB := wB_in 554 (by decide +kernel) (by decide +kernel)
theorem wd_555 : Cond.instanceMethod yX11_rests ∈ wB := wB_in 555 (by decide +kernel) (by decide +kernel)
theorem wd_556 : Cond.selects "SoldNews" yX11_rests yX11_rests ∈ wB := wB_in 556 (by decide +kernel) (by decide +kernel)
theorem wd_557 : Cond.code yX11_rests cX11_rests 7 (some .int) ∈ wB := wB_in 557 (by decide +kernel) (by decide +kernel)
theorem lk_L_64 : LkV RL 64 M_X11_rests 4 := ⟨⟨wd_554, wd_555, wd_556, wd_66, wd_557⟩, rfl, by decide, by decide, by decide +kernel⟩
theorem wd_1057 : Cond.methodLink "SoldNewsLaw" 68 yX12_rests ∈ wB := wB_in 1057 (by decide +kernel) (by decide +kernel)
theorem wd_1058 : Cond.instanceMethod yX12_rests ∈ wB := wB_in 1058 (by decide +kernel) (by decide +kernel)
theorem wd_1059 : Cond.selects "SoldNewsModel" yX12_rests yX12_rests ∈ wB := wB_in 1059 (by decide +kernel) (by decide +kernel)
theorem wd_1060 : Cond.code yX12_rests cX12_rests 7 (some .int) ∈ wB := wB_in 1060 (by decide +kernel) (by decide +kernel)
theorem lk_L_68 : LkV RL 68 M_X12_rests 4 := ⟨⟨wd_1057, wd_1058, wd_1059, wd_73, wd_1060⟩, rfl, by decide, by decide, by decide +kernel⟩
theorem wd_626 : Cond.methodLink "SoldNewsLaw" 69 yX11_makes ∈ wB := wB_in 626 (by decide +kernel) (by decide +kernel)
theorem wd_627 : Cond.instanceMethod yX11_makes ∈ wB := wB_in 627 (by decide +kernel) (by decide +kernel)
theorem wd_628 : Cond.selects "SoldNews" yX11_makes yX11_makes ∈ wB := wB_in 628 (by decide +kernel) (by decide +kernel)
theorem wd_629 : Cond.code yX11_makes cX11_makes 8 (some .long) ∈ wB := wB_in 629 (by decide +kernel) (by decide +kernel)
theorem lk_L_69 : LkV RL 69 M_X11_makes 5 := ⟨⟨wd_626, wd_627, wd_628, wd_66, wd_629⟩, rfl, by decide, by decide, by decide +kernel⟩
theorem wd_1104 : Cond.methodLink "SoldNewsLaw" 73 yX12_makes ∈ wB := wB_in 1104 (by decide +kernel) (by decide +kernel)
theorem wd_1105 : Cond.instanceMethod yX12_makes ∈ wB := wB_in 1105 (by decide +kernel) (by decide +kernel)
theorem wd_1106 : Cond.selects "SoldNewsModel" yX12_makes yX12_makes ∈ wB := wB_in 1106 (by decide +kernel) (by decide +kernel)
theorem wd_1107 : Cond.code yX12_makes cX12_makes 7 (some .long) ∈ wB := wB_in 1107 (by decide +kernel) (by decide +kernel)
theorem lk_L_73 : LkV RL 73 M_X12_makes 5 := ⟨⟨wd_1104, wd_1105, wd_1106, wd_73, wd_1107⟩, rfl, by decide, by decide, by decide +kernel⟩
theorem wd_642 : Cond.methodLink "SoldNewsLaw" 74 yX11_worth ∈ wB := wB_in 642 (by decide +kernel) (by decide +kernel)
theorem wd_643 : Cond.instanceMethod yX11_worth ∈ wB := wB_in 643 (by decide +kernel) (by decide +kernel)
theorem wd_644 : Cond.selects "SoldNews" yX11_worth yX11_worth ∈ wB := wB_in 644 (by decide +kernel) (by decide +kernel)
theorem wd_645 : Cond.code yX11_worth cX11_worth 6 (some .long) ∈ wB := wB_in 645 (by decide +kernel) (by decide +kernel)
theorem lk_L_74 : LkV RL 74 M_X11_worth 4 := ⟨⟨wd_642, wd_643, wd_644, wd_66, wd_645⟩, rfl, by decide, by decide, by decide +kernel⟩
theorem wd_1112 : Cond.methodLink "SoldNewsLaw" 78 yX12_worth ∈ wB := wB_in 1112 (by decide +kernel) (by decide +kernel)
theorem wd_1113 : Cond.instanceMethod yX12_worth ∈ wB := wB_in 1113 (by decide +kernel) (by decide +kernel)
theorem wd_1114 : Cond.selects "SoldNewsModel" yX12_worth yX12_worth ∈ wB := wB_in 1114 (by decide +kernel) (by decide +kernel)
theorem wd_1115 : Cond.code yX12_worth cX12_worth 6 (some .long) ∈ wB := wB_in 1115 (by decide +kernel) (by decide +kernel)
theorem lk_L_78 : LkV RL 78 M_X12_worth 4 := ⟨⟨wd_1112, wd_1113, wd_1114, wd_73, wd_1115⟩, rfl, by decide, by decide, by decide +kernel⟩
theorem wd_650 : Cond.methodLink "SoldNewsLaw" 79 yX11_whom ∈ wB := wB_in 650 (by decide +kernel) (by decide +kernel)
theorem wd_651 : Cond.instanceMethod yX11_whom ∈ wB := wB_in 651 (by decide +kernel) (by decide +kernel)
theorem wd_652 : Cond.selects "SoldNews" yX11_whom yX11_whom ∈ wB := wB_in 652 (by decide +kernel) (by decide +kernel)
theorem wd_653 : Cond.code yX11_whom cX11_whom 4 (some .int) ∈ wB := wB_in 653 (by decide +kernel) (by decide +kernel)
theorem lk_L_79 : LkV RL 79 M_X11_whom 2 := ⟨⟨wd_650, wd_651, wd_652, wd_66, wd_653⟩, rfl, by decide, by decide, by decide +kernel⟩
theorem wd_1128 : Cond.methodLink "SoldNewsLaw" 82 yX12_whom ∈ wB := wB_in 1128 (by decide +kernel) (by decide +kernel)
theorem wd_1129 : Cond.instanceMethod yX12_whom ∈ wB := wB_in 1129 (by decide +kernel) (by decide +kernel)
theorem wd_1130 : Cond.selects "SoldNewsModel" yX12_whom yX12_whom ∈ wB := wB_in 1130 (by decide +kernel) (by decide +kernel)
theorem wd_1131 : Cond.code yX12_whom cX12_whom 4 (some .int) ∈ wB := wB_in 1131 (by decide +kernel) (by decide +kernel)
theorem lk_L_82 : LkV RL 82 M_X12_whom 2 := ⟨⟨wd_1128, wd_1129, wd_1130, wd_73, wd_1131⟩, rfl, by decide, by decide, by decide +kernel⟩
theorem wd_673 : Cond.methodLink "SoldNewsLaw" 83 yX11_plainly ∈ wB := wB_in 673 (by decide +kernel) (by decide +kernel)
theorem wd_674 : Cond.instanceMethod yX11_plainly ∈ wB := wB_in 674 (by decide +kernel) (by decide +kernel)
theorem wd_675 : Cond.selects "SoldNews" yX11_plainly yX11_plainly ∈ wB := wB_in 675 (by decide +kernel) (by decide +kernel)
theorem wd_676 : Cond.code yX11_plainly cX11_plainly 8 (some .int) ∈ wB := wB_in 676 (by decide +kernel) (by decide +kernel)
theorem lk_L_83 : LkV RL 83 M_X11_plainly 1 := ⟨⟨wd_673, wd_674, wd_675, wd_66, wd_676⟩, rfl, by decide, by decide, by decide +kernel⟩
theorem wd_1136 : Cond.methodLink "SoldNewsLaw" 87 yX12_plainly ∈ wB := wB_in 1136 (by decide +kernel) (by decide +kernel)
theorem wd_1137 : Cond.instanceMethod yX12_plainly ∈ wB := wB_in 1137 (by decide +kernel) (by decide +kernel)
theorem wd_1138 : Cond.selects "SoldNewsModel" yX12_plainly yX12_plainly ∈ wB := wB_in 1138 (by decide +kernel) (by decide +kernel)
theorem wd_1139 : Cond.code yX12_plainly cX12_plainly 8 (some .int) ∈ wB := wB_in 1139 (by decide +kernel) (by decide +kernel)
theorem lk_L_87 : LkV RL 87 M_X12_plainly 1 := ⟨⟨wd_1136, wd_1137, wd_1138, wd_73, wd_1139⟩, rfl, by decide, by decide, by decide +kernel⟩
theorem wd_677 : Cond.methodLink "SoldNewsLaw" 88 yX11_more ∈ wB := wB_in 677 (by decide +kernel) (by decide +kernel)
theorem wd_678 : Cond.instanceMethod yX11_more ∈ wB := wB_in 678 (by decide +kernel) (by decide +kernel)
theorem wd_679 : Cond.selects "SoldNews" yX11_more yX11_more ∈ wB := wB_in 679 (by decide +kernel) (by decide +kernel)
theorem wd_680 : Cond.code yX11_more cX11_more 4 (some .int) ∈ wB := wB_in 680 (by decide +kernel) (by decide +kernel)
theorem lk_L_88 : LkV RL 88 M_X11_more 2 := ⟨⟨wd_677, wd_678, wd_679, wd_66, wd_680⟩, rfl, by decide, by decide, by decide +kernel⟩
theorem wd_1140 : Cond.methodLink "SoldNewsLaw" 91 yX12_more ∈ wB := wB_in 1140 (by decide +kernel) (by decide +kernel)
theorem wd_1141 : Cond.instanceMethod yX12_more ∈ wB := wB_in 1141 (by decide +kernel) (by decide +kernel)
theorem wd_1142 : Cond.selects "SoldNewsModel" yX12_more yX12_more ∈ wB := wB_in 1142 (by decide +kernel) (by decide +kernel)
theorem wd_1143 : Cond.code yX12_more cX12_more 4 (some .int) ∈ wB := wB_in 1143 (by decide +kernel) (by decide +kernel)
theorem lk_L_91 : LkV RL 91 M_X12_more 2 := ⟨⟨wd_1140, wd_1141, wd_1142, wd_73, wd_1143⟩, rfl, by decide, by decide, by decide +kernel⟩
theorem wd_688 : Cond.methodLink "SoldNewsLaw" 92 yX11_pledge ∈ wB := wB_in 688 (by decide +kernel) (by decide +kernel)
theorem wd_689 : Cond.instanceMethod yX11_pledge ∈ wB := wB_in 689 (by decide +kernel) (by decide +kernel)
theorem wd_690 : Cond.selects "SoldNews" yX11_pledge yX11_pledge ∈ wB := wB_in 690 (by decide +kernel) (by decide +kernel)
theorem wd_691 : Cond.code yX11_pledge cX11_pledge 8 (some .long) ∈ wB := wB_in 691 (by decide +kernel) (by decide +kernel)
theorem lk_L_92 : LkV RL 92 M_X11_pledge 3 := ⟨⟨wd_688, wd_689, wd_690, wd_66, wd_691⟩, rfl, by decide, by decide, by decide +kernel⟩
theorem wd_1148 : Cond.methodLink "SoldNewsLaw" 95 yX12_pledge ∈ wB := wB_in 1148 (by decide +kernel) (by decide +kernel)
theorem wd_1149 : Cond.instanceMethod yX12_pledge ∈ wB := wB_in 1149 (by decide +kernel) (by decide +kernel)
theorem wd_1150 : Cond.selects "SoldNewsModel" yX12_pledge yX12_pledge ∈ wB := wB_in 1150 (by decide +kernel) (by decide +kernel)
theorem wd_1151 : Cond.code yX12_pledge cX12_pledge 5 (some .long) ∈ wB := wB_in 1151 (by decide +kernel) (by decide +kernel)
theorem lk_L_95 : LkV RL 95 M_X12_pledge 3 := ⟨⟨wd_1148, wd_1149, wd_1150, wd_73, wd_1151⟩, rfl, by decide, by decide, by decide +kernel⟩
theorem wd_692 : Cond.methodLink "SoldNewsLaw" 96 yX11_on ∈ wB := wB_in 692 (by decide +kernel) (by decide +kernel)
theorem wd_693 : Cond.instanceMethod yX11_on ∈ wB := wB_in 693 (by decide +kernel) (by decide +kernel)
theorem wd_694 : Cond.selects "SoldNews" yX11_on yX11_on ∈ wB := wB_in 694 (by decide +kernel) (by decide +kernel)
theorem wd_695 : Cond.code yX11_on cX11_on 7 (some .int) ∈ wB := wB_in 695 (by decide +kernel) (by decide +kernel)
theorem lk_L_96 : LkV RL 96 M_X11_on 3 := ⟨⟨wd_692, wd_693, wd_694, wd_66, wd_695⟩, rfl, by decide, by decide, by decide +kernel⟩
theorem wd_1152 : Cond.methodLink "SoldNewsLaw" 99 yX12_on ∈ wB := wB_in 1152 (by decide +kernel) (by decide +kernel)
theorem wd_1153 : Cond.instanceMethod yX12_on ∈ wB := wB_in 1153 (by decide +kernel) (by decide +kernel)
theorem wd_1154 : Cond.selects "SoldNewsModel" yX12_on yX12_on ∈ wB := wB_in 1154 (by decide +kernel) (by decide +kernel)
theorem wd_1155 : Cond.code yX12_on cX12_on 11 (some .int) ∈ wB := wB_in 1155 (by decide +kernel) (by decide +kernel)
theorem lk_L_99 : LkV RL 99 M_X12_on 3 := ⟨⟨wd_1152, wd_1153, wd_1154, wd_73, wd_1155⟩, rfl, by decide, by decide, by decide +kernel⟩
theorem wd_700 : Cond.methodLink "SoldNewsLaw" 100 yX11_shut ∈ wB := wB_in 700 (by decide +kernel) (by decide +kernel)
theorem wd_701 : Cond.instanceMethod yX11_shut ∈ wB := wB_in 701 (by decide +kernel) (by decide +kernel)
theorem wd_702 : Cond.selects "SoldNews" yX11_shut yX11_shut ∈ wB := wB_in 702 (by decide +kernel) (by decide +kernel)
theorem wd_703 : Cond.code yX11_shut cX11_shut 9 (some .long) ∈ wB := wB_in 703 (by decide +kernel) (by decide +kernel)
theorem lk_L_100 : LkV RL 100 M_X11_shut 3 := ⟨⟨wd_700, wd_701, wd_702, wd_66, wd_703⟩, rfl, by decide, by decide, by decide +kernel⟩
theorem wd_1156 : Cond.methodLink "SoldNewsLaw" 103 yX12_shut ∈ wB := wB_in 1156 (by decide +kernel) (by decide +kernel)
theorem wd_1157 : Cond.instanceMethod yX12_shut ∈ wB := wB_in 1157 (by decide +kernel) (by decide +kernel)
theorem wd_1158 : Cond.selects "SoldNewsModel" yX12_shut yX12_shut ∈ wB := wB_in 1158 (by decide +kernel) (by decide +kernel)
theorem wd_1159 : Cond.code yX12_shut cX12_shut 7 (some .long) ∈ wB := wB_in 1159 (by decide +kernel) (by decide +kernel)
theorem lk_L_103 : LkV RL 103 M_X12_shut 3 := ⟨⟨wd_1156, wd_1157, wd_1158, wd_73, wd_1159⟩, rfl, by decide, by decide, by decide +kernel⟩
theorem wd_704 : Cond.methodLink "SoldNewsLaw" 104 yX11_wrongly ∈ wB := wB_in 704 (by decide +kernel) (by decide +kernel)
theorem wd_705 : Cond.instanceMethod yX11_wrongly ∈ wB := wB_in 705 (by decide +kernel) (by decide +kernel)
theorem wd_706 : Cond.selects "SoldNews" yX11_wrongly yX11_wrongly ∈ wB := wB_in 706 (by decide +kernel) (by decide +kernel)
theorem wd_707 : Cond.code yX11_wrongly cX11_wrongly 10 (some .long) ∈ wB := wB_in 707 (by decide +kernel) (by decide +kernel)
theorem lk_L_104 : LkV RL 104 M_X11_wrongly 6 := ⟨⟨wd_704, wd_705, wd_706, wd_66, wd_707⟩, rfl, by decide, by decide, by decide +kernel⟩
theorem wd_1160 : Cond.methodLink "SoldNewsLaw" 108 yX12_wrongly ∈ wB := wB_in 1160 (by decide +kernel) (by decide +kernel)
theorem wd_1161 : Cond.instanceMethod yX12_wrongly ∈ wB := wB_in 1161 (by decide +kernel) (by decide +kernel)
theorem wd_1162 : Cond.selects "SoldNewsModel" yX12_wrongly yX12_wrongly ∈ wB := wB_in 1162 (by decide +kernel) (by decide +kernel)
theorem wd_1163 : Cond.code yX12_wrongly cX12_wrongly 13 (some .long) ∈ wB := wB_in 1163 (by decide +kernel) (by decide +kernel)
theorem lk_L_108 : LkV RL 108 M_X12_wrongly 6 := ⟨⟨wd_1160, wd_1161, wd_1162, wd_73, wd_1163⟩, rfl, by decide, by decide, by decide +kernel⟩
theorem wd_712 : Cond.methodLink "SoldNewsLaw" 109 yX11_shown ∈ wB := wB_in 712 (by decide +kernel) (by decide +kernel)
theorem wd_713 : Cond.instanceMethod yX11_shown ∈ wB := wB_in 713 (by decide +kernel) (by decide +kernel)
theorem wd_714 : Cond.selects "SoldNews" yX11_shown yX11_shown ∈ wB := wB_in 714 (by decide +kernel) (by decide +kernel)
theorem wd_715 : Cond.code yX11_shown cX11_shown 6 (some .int) ∈ wB := wB_in 715 (by decide +kernel) (by decide +kernel)
theorem lk_L_109 : LkV RL 109 M_X11_shown 2 := ⟨⟨wd_712, wd_713, wd_714, wd_66, wd_715⟩, rfl, by decide, by decide, by decide +kernel⟩
theorem wd_1164 : Cond.methodLink "SoldNewsLaw" 112 yX12_shown ∈ wB := wB_in 1164 (by decide +kernel) (by decide +kernel)
theorem wd_1165 : Cond.instanceMethod yX12_shown ∈ wB := wB_in 1165 (by decide +kernel) (by decide +kernel)
theorem wd_1166 : Cond.selects "SoldNewsModel" yX12_shown yX12_shown ∈ wB := wB_in 1166 (by decide +kernel) (by decide +kernel)
theorem wd_1167 : Cond.code yX12_shown cX12_shown 8 (some .int) ∈ wB := wB_in 1167 (by decide +kernel) (by decide +kernel)
theorem lk_L_112 : LkV RL 112 M_X12_shown 2 := ⟨⟨wd_1164, wd_1165, wd_1166, wd_73, wd_1167⟩, rfl, by decide, by decide, by decide +kernel⟩
theorem wd_729 : Cond.methodLink "SoldNewsLaw" 113 yX11_thought ∈ wB := wB_in 729 (by decide +kernel) (by decide +kernel)
theorem wd_730 : Cond.instanceMethod yX11_thought ∈ wB := wB_in 730 (by decide +kernel) (by decide +kernel)
theorem wd_731 : Cond.selects "SoldNews" yX11_thought yX11_thought ∈ wB := wB_in 731 (by decide +kernel) (by decide +kernel)
theorem wd_732 : Cond.code yX11_thought cX11_thought 11 (some .long) ∈ wB := wB_in 732 (by decide +kernel) (by decide +kernel)
theorem lk_L_113 : LkV RL 113 M_X11_thought 4 := ⟨⟨wd_729, wd_730, wd_731, wd_66, wd_732⟩, rfl, by decide, by decide, by decide +kernel⟩
theorem wd_1172 : Cond.methodLink "SoldNewsLaw" 116 yX12_thought ∈ wB := wB_in 1172 (by decide +kernel) (by decide +kernel)
theorem wd_1173 : Cond.instanceMethod yX12_thought ∈ wB := wB_in 1173 (by decide +kernel) (by decide +kernel)
theorem wd_1174 : Cond.selects "SoldNewsModel" yX12_thought yX12_thought ∈ wB := wB_in 1174 (by decide +kernel) (by decide +kernel)
theorem wd_1175 : Cond.code yX12_thought cX12_thought 14 (some .long) ∈ wB := wB_in 1175 (by decide +kernel) (by decide +kernel)
theorem lk_L_116 : LkV RL 116 M_X12_thought 4 := ⟨⟨wd_1172, wd_1173, wd_1174, wd_73, wd_1175⟩, rfl, by decide, by decide, by decide +kernel⟩
theorem wd_733 : Cond.methodLink "SoldNewsLaw" 117 yX11_bound ∈ wB := wB_in 733 (by decide +kernel) (by decide +kernel)
theorem lk_L_117 : LkV RL 117 M_X11_bound 1 := ⟨⟨wd_733, wd_734, wd_735, wd_66, wd_736⟩, rfl, by decide, by decide, by decide +kernel⟩
theorem wd_1176 : Cond.methodLink "SoldNewsLaw" 121 yX12_bound ∈ wB := wB_in 1176 (by decide +kernel) (by decide +kernel)
theorem wd_1177 : Cond.instanceMethod yX12_bound ∈ wB := wB_in 1177 (by decide +kernel) (by decide +kernel)
theorem wd_1178 : Cond.selects "SoldNewsModel" yX12_bound yX12_bound ∈ wB := wB_in 1178 (by decide +kernel) (by decide +kernel)
theorem wd_1179 : Cond.code yX12_bound cX12_bound 2 (some .long) ∈ wB := wB_in 1179 (by decide +kernel) (by decide +kernel)
theorem lk_L_121 : LkV RL 121 M_X12_bound 1 := ⟨⟨wd_1176, wd_1177, wd_1178, wd_73, wd_1179⟩, rfl, by decide, by decide, by decide +kernel⟩
theorem wd_750 : Cond.methodLink "SoldNewsLaw" 122 yX11_run ∈ wB := wB_in 750 (by decide +kernel) (by decide +kernel)
theorem wd_751 : Cond.instanceMethod yX11_run ∈ wB := wB_in 751 (by decide +kernel) (by decide +kernel)
theorem wd_752 : Cond.selects "SoldNews" yX11_run yX11_run ∈ wB := wB_in 752 (by decide +kernel) (by decide +kernel)
theorem wd_753 : Cond.code yX11_run cX11_run 15 (some .int) ∈ wB := wB_in 753 (by decide +kernel) (by decide +kernel)
theorem lk_L_122 : LkV RL 122 M_X11_run 5 := ⟨⟨wd_750, wd_751, wd_752, wd_66, wd_753⟩, rfl, by decide, by decide, by decide +kernel⟩
theorem wd_1184 : Cond.methodLink "SoldNewsLaw" 126 yX12_run ∈ wB := wB_in 1184 (by decide +kernel) (by decide +kernel)
theorem wd_1185 : Cond.instanceMethod yX12_run ∈ wB := wB_in 1185 (by decide +kernel) (by decide +kernel)
theorem wd_1186 : Cond.selects "SoldNewsModel" yX12_run yX12_run ∈ wB := wB_in 1186 (by decide +kernel) (by decide +kernel)
theorem wd_1187 : Cond.code yX12_run cX12_run 14 (some .int) ∈ wB := wB_in 1187 (by decide +kernel) (by decide +kernel)
theorem lk_L_126 : LkV RL 126 M_X12_run 5 := ⟨⟨wd_1184, wd_1185, wd_1186, wd_73, wd_1187⟩, rfl, by decide, by decide, by decide +kernel⟩
theorem wd_782 : Cond.methodLink "SoldNewsLaw" 127 yX11_count ∈ wB := wB_in 782 (by decide +kernel) (by decide +kernel)
theorem lk_L_127 : LkV RL 127 M_X11_count 1 := ⟨⟨wd_782, wd_783, wd_784, wd_66, wd_785⟩, rfl, by decide, by decide, by decide +kernel⟩
theorem wd_1209 : Cond.methodLink "SoldNewsLaw" 130 yX12_count ∈ wB := wB_in 1209 (by decide +kernel) (by decide +kernel)
theorem lk_L_130 : LkV RL 130 M_X12_count 1 := ⟨⟨wd_1209, wd_1210, wd_1211, wd_73, wd_1212⟩, rfl, by decide, by decide, by decide +kernel⟩
theorem wd_786 : Cond.methodLink "SoldNewsLaw" 131 yX11_digest ∈ wB := wB_in 786 (by decide +kernel) (by decide +kernel)
theorem wd_787 : Cond.instanceMethod yX11_digest ∈ wB := wB_in 787 (by decide +kernel) (by decide +kernel)
theorem wd_788 : Cond.selects "SoldNews" yX11_digest yX11_digest ∈ wB := wB_in 788 (by decide +kernel) (by decide +kernel)
theorem wd_789 : Cond.code yX11_digest cX11_digest 4 (some .long) ∈ wB := wB_in 789 (by decide +kernel) (by decide +kernel)
theorem lk_L_131 : LkV RL 131 M_X11_digest 0 := ⟨⟨wd_786, wd_787, wd_788, wd_66, wd_789⟩, rfl, by decide, by decide, by decide +kernel⟩
theorem wd_1213 : Cond.methodLink "SoldNewsLaw" 135 yX12_digest ∈ wB := wB_in 1213 (by decide +kernel) (by decide +kernel)
theorem wd_1214 : Cond.instanceMethod yX12_digest ∈ wB := wB_in 1214 (by decide +kernel) (by decide +kernel)
theorem wd_1215 : Cond.selects "SoldNewsModel" yX12_digest yX12_digest ∈ wB := wB_in 1215 (by decide +kernel) (by decide +kernel)
theorem wd_1216 : Cond.code yX12_digest cX12_digest 2 (some .long) ∈ wB := wB_in 1216 (by decide +kernel) (by decide +kernel)
theorem lk_L_135 : LkV RL 135 M_X12_digest 0 := ⟨⟨wd_1213, wd_1214, wd_1215, wd_73, wd_1216⟩, rfl, by decide, by decide, by decide +kernel⟩
theorem fitC {k a b n : Nat} (h : k + a ≤ n) (hb : b ≤ a) : k + b ≤ n := Nat.le_trans (Nat.add_le_add_left hb k) h
theorem fitD {k a b c n : Nat} (h : k + a ≤ n) (hb : b + c ≤ a) : k + b + c ≤ n := by omega
set_option maxHeartbeats 4000000 in
set_option maxRecDepth 100000 in
theorem law_0 {g : Gx} {hf : HP} {ρ : Rh} (hρ : Hr ρ) {d d1 d2 : Dd} {i : Int32} {r : Int32} {kc ks : Nat} (hk : kc + 1 ≤ 600000 ∧ ks + 2 ≤ 7302250) (hin : ∀ j : Int32, j ∈ [1, 2, 3, 4, 5, 6] → inB (i + j) ρ.2.2 = true) (e1 : fX11_letters ρ d ((jlshl (Int32.toInt64 (d_i d 2 (ix (i + 1)))) 32) ||| ((Int32.toInt64 (d_i d 2 (ix (i + 2)))) &&& 4294967295)) = some (r, d1)) (e2 : fX12_letters ρ d1 ((jlshl (Int32.toInt64 (d_i d1 2 (ix (i + 1)))) 32) ||| ((Int32.toInt64 (d_i d1 2 (ix (i + 2)))) &&& 4294967295)) = some (r, d2)) (kk : WW g M_L_law (eF hf) 1189 (LH i) [] (full d2 ρ) (kc + 1) (ks + 2) (some ())) : WW g M_L_law (eF hf) 156 (LH i) [] (full d ρ) kc ks (some ()) := by
  refine WW.aload_n (pc := 156) (j := 1) rfl dL_law_156 ?_
  refine WW.aload_n (pc := 157) (j := 0) rfl dL_law_157 ?_
  refine WW.iload_n (pc := 158) (j := 3) rfl dL_law_158 ?_
  refine WW.iconst (pc := 159) 1 dL_law_159 rfl ?_
  refine WW.iadd (pc := 160) dL_law_160 ?_
  refine WW.ialdH (pc := 161) (hin 1 (by decide)) (by decide) (sh_2 ρ) dL_law_161 ?_
  show WW _ _ _ 162 _ [.int (d_i d 2 (ix (i + 1))), .ref 3] (full d ρ) _ _ _
  refine WW.i2l (pc := 162) dL_law_162 ?_
  refine WW.bipush (pc := 163) 32 dL_law_163 rfl ?_
  refine WW.lshl (pc := 165) dL_law_165 ?_
  refine WW.aload_n (pc := 166) (j := 0) rfl dL_law_166 ?_
  refine WW.iload_n (pc := 167) (j := 3) rfl dL_law_167 ?_
  refine WW.iconst (pc := 168) 2 dL_law_168 rfl ?_
  refine WW.iadd (pc := 169) dL_law_169 ?_
  refine WW.ialdH (pc := 170) (hin 2 (by decide)) (by decide) (sh_2 ρ) dL_law_170 ?_
  show WW _ _ _ 171 _ [.int (d_i d 2 (ix (i + 2))), .long (jlshl (Int32.toInt64 (d_i d 2 (ix (i + 1)))) 32), .ref 3] (full d ρ) _ _ _
  refine WW.i2l (pc := 171) dL_law_171 ?_
  refine WW.ldc2 (pc := 172) wd_1229 dL_law_172 ?_
  refine WW.land (pc := 175) dL_law_175 ?_
  refine WW.lor (pc := 176) dL_law_176 ?_
  refine WW.callVH (pc := 177) (As := [.long ((jlshl (Int32.toInt64 (d_i d 2 (ix (i + 1)))) 32) ||| ((Int32.toInt64 (d_i d 2 (ix (i + 2)))) &&& 4294967295))]) (st := []) e1 lk_L_15 (okX11_letters g ρ hρ d ((jlshl (Int32.toInt64 (d_i d 2 (ix (i + 1)))) 32) ||| ((Int32.toInt64 (d_i d 2 (ix (i + 2)))) &&& 4294967295))) h3_3 (sh_3 ρ) ⟨_, _, clk11⟩ rfl (Nat.le_of_ble_eq_true rfl) ⟨(Nat.le_of_ble_eq_true rfl), (Nat.le_of_ble_eq_true rfl), fitC hk.1 (by decide), fitC hk.2 (by decide)⟩ dL_law_177 rfl ?_
  show WW _ _ _ 180 _ [.int r] (full d1 ρ) _ _ _
  refine WW.aload_n (pc := 180) (j := 2) rfl dL_law_180 ?_
  refine WW.aload_n (pc := 181) (j := 0) rfl dL_law_181 ?_
  refine WW.iload_n (pc := 182) (j := 3) rfl dL_law_182 ?_
  refine WW.iconst (pc := 183) 1 dL_law_183 rfl ?_
  refine WW.iadd (pc := 184) dL_law_184 ?_
  refine WW.ialdH (pc := 185) (hin 1 (by decide)) (by decide) (sh_2 ρ) dL_law_185 ?_
  show WW _ _ _ 186 _ [.int (d_i d1 2 (ix (i + 1))), .ref 23, .int r] (full d1 ρ) _ _ _
  refine WW.i2l (pc := 186) dL_law_186 ?_
  refine WW.bipush (pc := 187) 32 dL_law_187 rfl ?_
  refine WW.lshl (pc := 189) dL_law_189 ?_
  refine WW.aload_n (pc := 190) (j := 0) rfl dL_law_190 ?_
  refine WW.iload_n (pc := 191) (j := 3) rfl dL_law_191 ?_
  refine WW.iconst (pc := 192) 2 dL_law_192 rfl ?_
  refine WW.iadd (pc := 193) dL_law_193 ?_
  refine WW.ialdH (pc := 194) (hin 2 (by decide)) (by decide) (sh_2 ρ) dL_law_194 ?_
  show WW _ _ _ 195 _ [.int (d_i d1 2 (ix (i + 2))), .long (jlshl (Int32.toInt64 (d_i d1 2 (ix (i + 1)))) 32), .ref 23, .int r] (full d1 ρ) _ _ _
  refine WW.i2l (pc := 195) dL_law_195 ?_
  refine WW.ldc2 (pc := 196) wd_1229 dL_law_196 ?_
  refine WW.land (pc := 199) dL_law_199 ?_
  refine WW.lor (pc := 200) dL_law_200 ?_
  refine WW.callVH (pc := 201) (As := [.long ((jlshl (Int32.toInt64 (d_i d1 2 (ix (i + 1)))) 32) ||| ((Int32.toInt64 (d_i d1 2 (ix (i + 2)))) &&& 4294967295))]) (st := [.int r]) e2 lk_L_19 (okX12_letters g ρ hρ d1 ((jlshl (Int32.toInt64 (d_i d1 2 (ix (i + 1)))) 32) ||| ((Int32.toInt64 (d_i d1 2 (ix (i + 2)))) &&& 4294967295))) h3_23 (sh_23 ρ) ⟨_, _, clk12⟩ rfl (Nat.le_of_ble_eq_true rfl) ⟨(Nat.le_of_ble_eq_true rfl), (Nat.le_of_ble_eq_true rfl), fitD hk.1 (by decide), fitD hk.2 (by decide)⟩ dL_law_201 rfl ?_
  show WW _ _ _ 204 _ [.int r, .int r] (full d2 ρ) _ _ _
  refine WW.icmpH (pc := 204) 1189 dL_law_204 (by decide) ?_
  exact WW.wide (kc' := kc + 1) (ks' := ks + 2) (fitD (Nat.le_refl _) (by decide)) (fitD (Nat.le_refl _) (by decide)) kk
set_option maxHeartbeats 4000000 in
set_option maxRecDepth 100000 in
theorem law_1 {g : Gx} {hf : HP} {ρ : Rh} (hρ : Hr ρ) {d d1 d2 : Dd} {i : Int32} {r : Int32} {kc ks : Nat} (hk : kc + 1 ≤ 600000 ∧ ks + 2 ≤ 7302250) (hin : ∀ j : Int32, j ∈ [1, 2, 3, 4, 5, 6] → inB (i + j) ρ.2.2 = true) (e1 : fX11_blank ρ d = some (r, d1)) (e2 : fX12_blank ρ d1 = some (r, d2)) (kk : WW g M_L_law (eF hf) 1189 (LH i) [] (full d2 ρ) (kc + 1) (ks + 2) (some ())) : WW g M_L_law (eF hf) 209 (LH i) [] (full d ρ) kc ks (some ()) := by
  refine WW.aload_n (pc := 209) (j := 1) rfl dL_law_209 ?_
  refine WW.callVH (pc := 210) (As := []) (st := []) e1 lk_L_20 (okX11_blank g ρ hρ d ) h3_3 (sh_3 ρ) ⟨_, _, clk11⟩ rfl (Nat.le_of_ble_eq_true rfl) ⟨(Nat.le_of_ble_eq_true rfl), (Nat.le_of_ble_eq_true rfl), fitC hk.1 (by decide), fitC hk.2 (by decide)⟩ dL_law_210 rfl ?_
  show WW _ _ _ 213 _ [.int r] (full d1 ρ) _ _ _
  refine WW.aload_n (pc := 213) (j := 2) rfl dL_law_213 ?_
  refine WW.callVH (pc := 214) (As := []) (st := [.int r]) e2 lk_L_24 (okX12_blank g ρ hρ d1 ) h3_23 (sh_23 ρ) ⟨_, _, clk12⟩ rfl (Nat.le_of_ble_eq_true rfl) ⟨(Nat.le_of_ble_eq_true rfl), (Nat.le_of_ble_eq_true rfl), fitD hk.1 (by decide), fitD hk.2 (by decide)⟩ dL_law_214 rfl ?_
  show WW _ _ _ 217 _ [.int r, .int r] (full d2 ρ) _ _ _
  refine WW.icmpH (pc := 217) 1189 dL_law_217 (by decide) ?_
  exact WW.wide (kc' := kc + 1) (ks' := ks + 2) (fitD (Nat.le_refl _) (by decide)) (fitD (Nat.le_refl _) (by decide)) kk
set_option maxHeartbeats 4000000 in
set_option maxRecDepth 100000 in
theorem law_2 {g : Gx} {hf : HP} {ρ : Rh} (hρ : Hr ρ) {d d1 d2 : Dd} {i : Int32} {r : Int32} {kc ks : Nat} (hk : kc + 1 ≤ 600000 ∧ ks + 2 ≤ 7302250) (hin : ∀ j : Int32, j ∈ [1, 2, 3, 4, 5, 6] → inB (i + j) ρ.2.2 = true) (e1 : fX11_fault ρ d = some (r, d1)) (e2 : fX12_fault ρ d1 = some (r, d2)) (kk : WW g M_L_law (eF hf) 1189 (LH i) [] (full d2 ρ) (kc + 1) (ks + 2) (some ())) : WW g M_L_law (eF hf) 222 (LH i) [] (full d ρ) kc ks (some ()) := by
  refine WW.aload_n (pc := 222) (j := 1) rfl dL_law_222 ?_
  refine WW.callVH (pc := 223) (As := []) (st := []) e1 lk_L_25 (okX11_fault g ρ hρ d ) h3_3 (sh_3 ρ) ⟨_, _, clk11⟩ rfl (Nat.le_of_ble_eq_true rfl) ⟨(Nat.le_of_ble_eq_true rfl), (Nat.le_of_ble_eq_true rfl), fitC hk.1 (by decide), fitC hk.2 (by decide)⟩ dL_law_223 rfl ?_
  show WW _ _ _ 226 _ [.int r] (full d1 ρ) _ _ _
  refine WW.aload_n (pc := 226) (j := 2) rfl dL_law_226 ?_
  refine WW.callVH (pc := 227) (As := []) (st := [.int r]) e2 lk_L_28 (okX12_fault g ρ hρ d1 ) h3_23 (sh_23 ρ) ⟨_, _, clk12⟩ rfl (Nat.le_of_ble_eq_true rfl) ⟨(Nat.le_of_ble_eq_true rfl), (Nat.le_of_ble_eq_true rfl), fitD hk.1 (by decide), fitD hk.2 (by decide)⟩ dL_law_227 rfl ?_
  show WW _ _ _ 230 _ [.int r, .int r] (full d2 ρ) _ _ _
  refine WW.icmpH (pc := 230) 1189 dL_law_230 (by decide) ?_
  exact WW.wide (kc' := kc + 1) (ks' := ks + 2) (fitD (Nat.le_refl _) (by decide)) (fitD (Nat.le_refl _) (by decide)) kk
set_option maxHeartbeats 4000000 in
set_option maxRecDepth 100000 in
theorem law_3 {g : Gx} {hf : HP} {ρ ρ1 : Rh} (hρ : Hr ρ) (hρ1 : Hr ρ1) {d d1 d2 : Dd} {i : Int32} {r : Int32} {kc ks : Nat} (hk : kc + 1 ≤ 600000 ∧ ks + 2 ≤ 7302250) (hin : ∀ j : Int32, j ∈ [1, 2, 3, 4, 5, 6] → inB (i + j) ρ.2.2 = true) (hL1 : ρ1.2.2 = ρ.2.2) (e1 : fX11_market ρ d = some (r, d1, ρ1)) (e2 : fX12_market ρ1 d1 = some (r, d2)) (kk : WW g M_L_law (eF hf) 1189 (LH i) [] (full d2 ρ1) (kc + 1) (ks + 2) (some ())) : WW g M_L_law (eF hf) 235 (LH i) [] (full d ρ) kc ks (some ()) := by
  have hin1 : ∀ j : Int32, j ∈ [1, 2, 3, 4, 5, 6] → inB (i + j) ρ1.2.2 = true := by rw [hL1]; exact hin
  refine WW.aload_n (pc := 235) (j := 1) rfl dL_law_235 ?_
  refine WW.callVH (pc := 236) (As := []) (st := []) e1 lk_L_29 (okX11_market g ρ hρ d ) h3_3 (sh_3 ρ) ⟨_, _, clk11⟩ rfl (Nat.le_of_ble_eq_true rfl) ⟨(Nat.le_of_ble_eq_true rfl), (Nat.le_of_ble_eq_true rfl), fitC hk.1 (by decide), fitC hk.2 (by decide)⟩ dL_law_236 rfl ?_
  show WW _ _ _ 239 _ [.int r] (full d1 ρ1) _ _ _
  refine WW.aload_n (pc := 239) (j := 2) rfl dL_law_239 ?_
  refine WW.callVH (pc := 240) (As := []) (st := [.int r]) e2 lk_L_32 (okX12_market g ρ1 hρ1 d1 ) h3_23 (sh_23 ρ1) ⟨_, _, clk12⟩ rfl (Nat.le_of_ble_eq_true rfl) ⟨(Nat.le_of_ble_eq_true rfl), (Nat.le_of_ble_eq_true rfl), fitD hk.1 (by decide), fitD hk.2 (by decide)⟩ dL_law_240 rfl ?_
  show WW _ _ _ 243 _ [.int r, .int r] (full d2 ρ1) _ _ _
  refine WW.icmpH (pc := 243) 1189 dL_law_243 (by decide) ?_
  exact WW.wide (kc' := kc + 1) (ks' := ks + 2) (fitD (Nat.le_refl _) (by decide)) (fitD (Nat.le_refl _) (by decide)) kk
set_option maxHeartbeats 4000000 in
set_option maxRecDepth 100000 in
theorem law_4 {g : Gx} {hf : HP} {ρ : Rh} (hρ : Hr ρ) {d : Dd} {i : Int32} {r : Int32} {kc ks : Nat} (hk : kc + 1 ≤ 600000 ∧ ks + 2 ≤ 7302250) (hin : ∀ j : Int32, j ∈ [1, 2, 3, 4, 5, 6] → inB (i + j) ρ.2.2 = true) (e1 : fX11_told ρ d (d_i d 2 (ix (i + 1))) (d_i d 2 (ix (i + 2))) = some r) (e2 : fX12_told ρ d (d_i d 2 (ix (i + 1))) (d_i d 2 (ix (i + 2))) = some r) (kk : WW g M_L_law (eF hf) 1189 (LH i) [] (full d ρ) (kc + 1) (ks + 2) (some ())) : WW g M_L_law (eF hf) 248 (LH i) [] (full d ρ) kc ks (some ()) := by
  refine WW.aload_n (pc := 248) (j := 1) rfl dL_law_248 ?_
  refine WW.aload_n (pc := 249) (j := 0) rfl dL_law_249 ?_
  refine WW.iload_n (pc := 250) (j := 3) rfl dL_law_250 ?_
  refine WW.iconst (pc := 251) 1 dL_law_251 rfl ?_
  refine WW.iadd (pc := 252) dL_law_252 ?_
  refine WW.ialdH (pc := 253) (hin 1 (by decide)) (by decide) (sh_2 ρ) dL_law_253 ?_
  show WW _ _ _ 254 _ [.int (d_i d 2 (ix (i + 1))), .ref 3] (full d ρ) _ _ _
  refine WW.aload_n (pc := 254) (j := 0) rfl dL_law_254 ?_
  refine WW.iload_n (pc := 255) (j := 3) rfl dL_law_255 ?_
  refine WW.iconst (pc := 256) 2 dL_law_256 rfl ?_
  refine WW.iadd (pc := 257) dL_law_257 ?_
  refine WW.ialdH (pc := 258) (hin 2 (by decide)) (by decide) (sh_2 ρ) dL_law_258 ?_
  show WW _ _ _ 259 _ [.int (d_i d 2 (ix (i + 2))), .int (d_i d 2 (ix (i + 1))), .ref 3] (full d ρ) _ _ _
  refine WW.callVH (pc := 259) (As := [.int (d_i d 2 (ix (i + 1))), .int (d_i d 2 (ix (i + 2)))]) (st := []) e1 lk_L_33 (okX11_told g ρ hρ d (d_i d 2 (ix (i + 1))) (d_i d 2 (ix (i + 2)))) h3_3 (sh_3 ρ) ⟨_, _, clk11⟩ rfl (Nat.le_of_ble_eq_true rfl) ⟨(Nat.le_of_ble_eq_true rfl), (Nat.le_of_ble_eq_true rfl), fitC hk.1 (by decide), fitC hk.2 (by decide)⟩ dL_law_259 rfl ?_
  show WW _ _ _ 262 _ [.int r] (full d ρ) _ _ _
  refine WW.aload_n (pc := 262) (j := 2) rfl dL_law_262 ?_
  refine WW.aload_n (pc := 263) (j := 0) rfl dL_law_263 ?_
  refine WW.iload_n (pc := 264) (j := 3) rfl dL_law_264 ?_
  refine WW.iconst (pc := 265) 1 dL_law_265 rfl ?_
  refine WW.iadd (pc := 266) dL_law_266 ?_
  refine WW.ialdH (pc := 267) (hin 1 (by decide)) (by decide) (sh_2 ρ) dL_law_267 ?_
  show WW _ _ _ 268 _ [.int (d_i d 2 (ix (i + 1))), .ref 23, .int r] (full d ρ) _ _ _
  refine WW.aload_n (pc := 268) (j := 0) rfl dL_law_268 ?_
  refine WW.iload_n (pc := 269) (j := 3) rfl dL_law_269 ?_
  refine WW.iconst (pc := 270) 2 dL_law_270 rfl ?_
  refine WW.iadd (pc := 271) dL_law_271 ?_
  refine WW.ialdH (pc := 272) (hin 2 (by decide)) (by decide) (sh_2 ρ) dL_law_272 ?_
  show WW _ _ _ 273 _ [.int (d_i d 2 (ix (i + 2))), .int (d_i d 2 (ix (i + 1))), .ref 23, .int r] (full d ρ) _ _ _
  refine WW.callVH (pc := 273) (As := [.int (d_i d 2 (ix (i + 1))), .int (d_i d 2 (ix (i + 2)))]) (st := [.int r]) e2 lk_L_37 (okX12_told g ρ hρ d (d_i d 2 (ix (i + 1))) (d_i d 2 (ix (i + 2)))) h3_23 (sh_23 ρ) ⟨_, _, clk12⟩ rfl (Nat.le_of_ble_eq_true rfl) ⟨(Nat.le_of_ble_eq_true rfl), (Nat.le_of_ble_eq_true rfl), fitD hk.1 (by decide), fitD hk.2 (by decide)⟩ dL_law_273 rfl ?_
  show WW _ _ _ 276 _ [.int r, .int r] (full d ρ) _ _ _
  refine WW.icmpH (pc := 276) 1189 dL_law_276 (by decide) ?_
  exact WW.wide (kc' := kc + 1) (ks' := ks + 2) (fitD (Nat.le_refl _) (by decide)) (fitD (Nat.le_refl _) (by decide)) kk
set_option maxHeartbeats 4000000 in
set_option maxRecDepth 100000 in
theorem law_5 {g : Gx} {hf : HP} {ρ : Rh} (hρ : Hr ρ) {d d1 d2 : Dd} {i : Int32} {r : Int32} {kc ks : Nat} (hk : kc + 1 ≤ 600000 ∧ ks + 2 ≤ 7302250) (hin : ∀ j : Int32, j ∈ [1, 2, 3, 4, 5, 6] → inB (i + j) ρ.2.2 = true) (e1 : fX11_buyer ρ d (d_i d 2 (ix (i + 1))) (d_i d 2 (ix (i + 2))) = some (r, d1)) (e2 : fX12_buyer ρ d1 (d_i d1 2 (ix (i + 1))) (d_i d1 2 (ix (i + 2))) = some (r, d2)) (kk : WW g M_L_law (eF hf) 1189 (LH i) [] (full d2 ρ) (kc + 1) (ks + 2) (some ())) : WW g M_L_law (eF hf) 281 (LH i) [] (full d ρ) kc ks (some ()) := by
  refine WW.aload_n (pc := 281) (j := 1) rfl dL_law_281 ?_
  refine WW.aload_n (pc := 282) (j := 0) rfl dL_law_282 ?_
  refine WW.iload_n (pc := 283) (j := 3) rfl dL_law_283 ?_
  refine WW.iconst (pc := 284) 1 dL_law_284 rfl ?_
  refine WW.iadd (pc := 285) dL_law_285 ?_
  refine WW.ialdH (pc := 286) (hin 1 (by decide)) (by decide) (sh_2 ρ) dL_law_286 ?_
  show WW _ _ _ 287 _ [.int (d_i d 2 (ix (i + 1))), .ref 3] (full d ρ) _ _ _
  refine WW.aload_n (pc := 287) (j := 0) rfl dL_law_287 ?_
  refine WW.iload_n (pc := 288) (j := 3) rfl dL_law_288 ?_
  refine WW.iconst (pc := 289) 2 dL_law_289 rfl ?_
  refine WW.iadd (pc := 290) dL_law_290 ?_
  refine WW.ialdH (pc := 291) (hin 2 (by decide)) (by decide) (sh_2 ρ) dL_law_291 ?_
  show WW _ _ _ 292 _ [.int (d_i d 2 (ix (i + 2))), .int (d_i d 2 (ix (i + 1))), .ref 3] (full d ρ) _ _ _
  refine WW.callVH (pc := 292) (As := [.int (d_i d 2 (ix (i + 1))), .int (d_i d 2 (ix (i + 2)))]) (st := []) e1 lk_L_38 (okX11_buyer g ρ hρ d (d_i d 2 (ix (i + 1))) (d_i d 2 (ix (i + 2)))) h3_3 (sh_3 ρ) ⟨_, _, clk11⟩ rfl (Nat.le_of_ble_eq_true rfl) ⟨(Nat.le_of_ble_eq_true rfl), (Nat.le_of_ble_eq_true rfl), fitC hk.1 (by decide), fitC hk.2 (by decide)⟩ dL_law_292 rfl ?_
  show WW _ _ _ 295 _ [.int r] (full d1 ρ) _ _ _
  refine WW.aload_n (pc := 295) (j := 2) rfl dL_law_295 ?_
  refine WW.aload_n (pc := 296) (j := 0) rfl dL_law_296 ?_
  refine WW.iload_n (pc := 297) (j := 3) rfl dL_law_297 ?_
  refine WW.iconst (pc := 298) 1 dL_law_298 rfl ?_
  refine WW.iadd (pc := 299) dL_law_299 ?_
  refine WW.ialdH (pc := 300) (hin 1 (by decide)) (by decide) (sh_2 ρ) dL_law_300 ?_
  show WW _ _ _ 301 _ [.int (d_i d1 2 (ix (i + 1))), .ref 23, .int r] (full d1 ρ) _ _ _
  refine WW.aload_n (pc := 301) (j := 0) rfl dL_law_301 ?_
  refine WW.iload_n (pc := 302) (j := 3) rfl dL_law_302 ?_
  refine WW.iconst (pc := 303) 2 dL_law_303 rfl ?_
  refine WW.iadd (pc := 304) dL_law_304 ?_
  refine WW.ialdH (pc := 305) (hin 2 (by decide)) (by decide) (sh_2 ρ) dL_law_305 ?_
  show WW _ _ _ 306 _ [.int (d_i d1 2 (ix (i + 2))), .int (d_i d1 2 (ix (i + 1))), .ref 23, .int r] (full d1 ρ) _ _ _
  refine WW.callVH (pc := 306) (As := [.int (d_i d1 2 (ix (i + 1))), .int (d_i d1 2 (ix (i + 2)))]) (st := [.int r]) e2 lk_L_41 (okX12_buyer g ρ hρ d1 (d_i d1 2 (ix (i + 1))) (d_i d1 2 (ix (i + 2)))) h3_23 (sh_23 ρ) ⟨_, _, clk12⟩ rfl (Nat.le_of_ble_eq_true rfl) ⟨(Nat.le_of_ble_eq_true rfl), (Nat.le_of_ble_eq_true rfl), fitD hk.1 (by decide), fitD hk.2 (by decide)⟩ dL_law_306 rfl ?_
  show WW _ _ _ 309 _ [.int r, .int r] (full d2 ρ) _ _ _
  refine WW.icmpH (pc := 309) 1189 dL_law_309 (by decide) ?_
  exact WW.wide (kc' := kc + 1) (ks' := ks + 2) (fitD (Nat.le_refl _) (by decide)) (fitD (Nat.le_refl _) (by decide)) kk
set_option maxHeartbeats 4000000 in
set_option maxRecDepth 100000 in
theorem law_6 {g : Gx} {hf : HP} {ρ : Rh} (hρ : Hr ρ) {d d1 d2 : Dd} {i : Int32} {r : Int32} {kc ks : Nat} (hk : kc + 1 ≤ 600000 ∧ ks + 2 ≤ 7302250) (hin : ∀ j : Int32, j ∈ [1, 2, 3, 4, 5, 6] → inB (i + j) ρ.2.2 = true) (e1 : fX11_change ρ d (d_i d 2 (ix (i + 1))) (d_i d 2 (ix (i + 2))) (d_i d 2 (ix (i + 3))) = some (r, d1)) (e2 : fX12_change ρ d1 (d_i d1 2 (ix (i + 1))) (d_i d1 2 (ix (i + 2))) (d_i d1 2 (ix (i + 3))) = some (r, d2)) (kk : WW g M_L_law (eF hf) 1189 (LH i) [] (full d2 ρ) (kc + 1) (ks + 2) (some ())) : WW g M_L_law (eF hf) 314 (LH i) [] (full d ρ) kc ks (some ()) := by
  refine WW.aload_n (pc := 314) (j := 1) rfl dL_law_314 ?_
  refine WW.aload_n (pc := 315) (j := 0) rfl dL_law_315 ?_
  refine WW.iload_n (pc := 316) (j := 3) rfl dL_law_316 ?_
  refine WW.iconst (pc := 317) 1 dL_law_317 rfl ?_
  refine WW.iadd (pc := 318) dL_law_318 ?_
  refine WW.ialdH (pc := 319) (hin 1 (by decide)) (by decide) (sh_2 ρ) dL_law_319 ?_
  show WW _ _ _ 320 _ [.int (d_i d 2 (ix (i + 1))), .ref 3] (full d ρ) _ _ _
  refine WW.aload_n (pc := 320) (j := 0) rfl dL_law_320 ?_
  refine WW.iload_n (pc := 321) (j := 3) rfl dL_law_321 ?_
  refine WW.iconst (pc := 322) 2 dL_law_322 rfl ?_
  refine WW.iadd (pc := 323) dL_law_323 ?_
  refine WW.ialdH (pc := 324) (hin 2 (by decide)) (by decide) (sh_2 ρ) dL_law_324 ?_
  show WW _ _ _ 325 _ [.int (d_i d 2 (ix (i + 2))), .int (d_i d 2 (ix (i + 1))), .ref 3] (full d ρ) _ _ _
  refine WW.aload_n (pc := 325) (j := 0) rfl dL_law_325 ?_
  refine WW.iload_n (pc := 326) (j := 3) rfl dL_law_326 ?_
  refine WW.iconst (pc := 327) 3 dL_law_327 rfl ?_
  refine WW.iadd (pc := 328) dL_law_328 ?_
  refine WW.ialdH (pc := 329) (hin 3 (by decide)) (by decide) (sh_2 ρ) dL_law_329 ?_
  show WW _ _ _ 330 _ [.int (d_i d 2 (ix (i + 3))), .int (d_i d 2 (ix (i + 2))), .int (d_i d 2 (ix (i + 1))), .ref 3] (full d ρ) _ _ _
  refine WW.callVH (pc := 330) (As := [.int (d_i d 2 (ix (i + 1))), .int (d_i d 2 (ix (i + 2))), .int (d_i d 2 (ix (i + 3)))]) (st := []) e1 lk_L_42 (okX11_change g ρ hρ d (d_i d 2 (ix (i + 1))) (d_i d 2 (ix (i + 2))) (d_i d 2 (ix (i + 3)))) h3_3 (sh_3 ρ) ⟨_, _, clk11⟩ rfl (Nat.le_of_ble_eq_true rfl) ⟨(Nat.le_of_ble_eq_true rfl), (Nat.le_of_ble_eq_true rfl), fitC hk.1 (by decide), fitC hk.2 (by decide)⟩ dL_law_330 rfl ?_
  show WW _ _ _ 333 _ [.int r] (full d1 ρ) _ _ _
  refine WW.aload_n (pc := 333) (j := 2) rfl dL_law_333 ?_
  refine WW.aload_n (pc := 334) (j := 0) rfl dL_law_334 ?_
  refine WW.iload_n (pc := 335) (j := 3) rfl dL_law_335 ?_
  refine WW.iconst (pc := 336) 1 dL_law_336 rfl ?_
  refine WW.iadd (pc := 337) dL_law_337 ?_
  refine WW.ialdH (pc := 338) (hin 1 (by decide)) (by decide) (sh_2 ρ) dL_law_338 ?_
  show WW _ _ _ 339 _ [.int (d_i d1 2 (ix (i + 1))), .ref 23, .int r] (full d1 ρ) _ _ _
  refine WW.aload_n (pc := 339) (j := 0) rfl dL_law_339 ?_
  refine WW.iload_n (pc := 340) (j := 3) rfl dL_law_340 ?_
  refine WW.iconst (pc := 341) 2 dL_law_341 rfl ?_
  refine WW.iadd (pc := 342) dL_law_342 ?_
  refine WW.ialdH (pc := 343) (hin 2 (by decide)) (by decide) (sh_2 ρ) dL_law_343 ?_
  show WW _ _ _ 344 _ [.int (d_i d1 2 (ix (i + 2))), .int (d_i d1 2 (ix (i + 1))), .ref 23, .int r] (full d1 ρ) _ _ _
  refine WW.aload_n (pc := 344) (j := 0) rfl dL_law_344 ?_
  refine WW.iload_n (pc := 345) (j := 3) rfl dL_law_345 ?_
  refine WW.iconst (pc := 346) 3 dL_law_346 rfl ?_
  refine WW.iadd (pc := 347) dL_law_347 ?_
  refine WW.ialdH (pc := 348) (hin 3 (by decide)) (by decide) (sh_2 ρ) dL_law_348 ?_
  show WW _ _ _ 349 _ [.int (d_i d1 2 (ix (i + 3))), .int (d_i d1 2 (ix (i + 2))), .int (d_i d1 2 (ix (i + 1))), .ref 23, .int r] (full d1 ρ) _ _ _
  refine WW.callVH (pc := 349) (As := [.int (d_i d1 2 (ix (i + 1))), .int (d_i d1 2 (ix (i + 2))), .int (d_i d1 2 (ix (i + 3)))]) (st := [.int r]) e2 lk_L_46 (okX12_change g ρ hρ d1 (d_i d1 2 (ix (i + 1))) (d_i d1 2 (ix (i + 2))) (d_i d1 2 (ix (i + 3)))) h3_23 (sh_23 ρ) ⟨_, _, clk12⟩ rfl (Nat.le_of_ble_eq_true rfl) ⟨(Nat.le_of_ble_eq_true rfl), (Nat.le_of_ble_eq_true rfl), fitD hk.1 (by decide), fitD hk.2 (by decide)⟩ dL_law_349 rfl ?_
  show WW _ _ _ 352 _ [.int r, .int r] (full d2 ρ) _ _ _
  refine WW.icmpH (pc := 352) 1189 dL_law_352 (by decide) ?_
  exact WW.wide (kc' := kc + 1) (ks' := ks + 2) (fitD (Nat.le_refl _) (by decide)) (fitD (Nat.le_refl _) (by decide)) kk
set_option maxHeartbeats 4000000 in
set_option maxRecDepth 100000 in
theorem law_7 {g : Gx} {hf : HP} {ρ ρ1 : Rh} (hρ : Hr ρ) (hρ1 : Hr ρ1) {d d1 d2 : Dd} {i : Int32} {r : Int32} {kc ks : Nat} (hk : kc + 1 ≤ 600000 ∧ ks + 2 ≤ 7302250) (hin : ∀ j : Int32, j ∈ [1, 2, 3, 4, 5, 6] → inB (i + j) ρ.2.2 = true) (hL1 : ρ1.2.2 = ρ.2.2) (e1 : fX11_news ρ d (d_i d 2 (ix (i + 1))) (d_i d 2 (ix (i + 2))) = some (r, d1, ρ1)) (e2 : fX12_news ρ1 d1 (d_i d1 2 (ix (i + 1))) (d_i d1 2 (ix (i + 2))) = some (r, d2)) (kk : WW g M_L_law (eF hf) 1189 (LH i) [] (full d2 ρ1) (kc + 1) (ks + 2) (some ())) : WW g M_L_law (eF hf) 357 (LH i) [] (full d ρ) kc ks (some ()) := by
  have hin1 : ∀ j : Int32, j ∈ [1, 2, 3, 4, 5, 6] → inB (i + j) ρ1.2.2 = true := by rw [hL1]; exact hin
  refine WW.aload_n (pc := 357) (j := 1) rfl dL_law_357 ?_
  refine WW.aload_n (pc := 358) (j := 0) rfl dL_law_358 ?_
  refine WW.iload_n (pc := 359) (j := 3) rfl dL_law_359 ?_
  refine WW.iconst (pc := 360) 1 dL_law_360 rfl ?_
  refine WW.iadd (pc := 361) dL_law_361 ?_
  refine WW.ialdH (pc := 362) (hin 1 (by decide)) (by decide) (sh_2 ρ) dL_law_362 ?_
  show WW _ _ _ 363 _ [.int (d_i d 2 (ix (i + 1))), .ref 3] (full d ρ) _ _ _
  refine WW.aload_n (pc := 363) (j := 0) rfl dL_law_363 ?_
  refine WW.iload_n (pc := 364) (j := 3) rfl dL_law_364 ?_
  refine WW.iconst (pc := 365) 2 dL_law_365 rfl ?_
  refine WW.iadd (pc := 366) dL_law_366 ?_
  refine WW.ialdH (pc := 367) (hin 2 (by decide)) (by decide) (sh_2 ρ) dL_law_367 ?_
  show WW _ _ _ 368 _ [.int (d_i d 2 (ix (i + 2))), .int (d_i d 2 (ix (i + 1))), .ref 3] (full d ρ) _ _ _
  refine WW.callVH (pc := 368) (As := [.int (d_i d 2 (ix (i + 1))), .int (d_i d 2 (ix (i + 2)))]) (st := []) e1 lk_L_47 (okX11_news g ρ hρ d (d_i d 2 (ix (i + 1))) (d_i d 2 (ix (i + 2)))) h3_3 (sh_3 ρ) ⟨_, _, clk11⟩ rfl (Nat.le_of_ble_eq_true rfl) ⟨(Nat.le_of_ble_eq_true rfl), (Nat.le_of_ble_eq_true rfl), fitC hk.1 (by decide), fitC hk.2 (by decide)⟩ dL_law_368 rfl ?_
  show WW _ _ _ 371 _ [.int r] (full d1 ρ1) _ _ _
  refine WW.aload_n (pc := 371) (j := 2) rfl dL_law_371 ?_
  refine WW.aload_n (pc := 372) (j := 0) rfl dL_law_372 ?_
  refine WW.iload_n (pc := 373) (j := 3) rfl dL_law_373 ?_
  refine WW.iconst (pc := 374) 1 dL_law_374 rfl ?_
  refine WW.iadd (pc := 375) dL_law_375 ?_
  refine WW.ialdH (pc := 376) (hin1 1 (by decide)) (by decide) (sh_2 ρ1) dL_law_376 ?_
  show WW _ _ _ 377 _ [.int (d_i d1 2 (ix (i + 1))), .ref 23, .int r] (full d1 ρ1) _ _ _
  refine WW.aload_n (pc := 377) (j := 0) rfl dL_law_377 ?_
  refine WW.iload_n (pc := 378) (j := 3) rfl dL_law_378 ?_
  refine WW.iconst (pc := 379) 2 dL_law_379 rfl ?_
  refine WW.iadd (pc := 380) dL_law_380 ?_
  refine WW.ialdH (pc := 381) (hin1 2 (by decide)) (by decide) (sh_2 ρ1) dL_law_381 ?_
  show WW _ _ _ 382 _ [.int (d_i d1 2 (ix (i + 2))), .int (d_i d1 2 (ix (i + 1))), .ref 23, .int r] (full d1 ρ1) _ _ _
  refine WW.callVH (pc := 382) (As := [.int (d_i d1 2 (ix (i + 1))), .int (d_i d1 2 (ix (i + 2)))]) (st := [.int r]) e2 lk_L_50 (okX12_news g ρ1 hρ1 d1 (d_i d1 2 (ix (i + 1))) (d_i d1 2 (ix (i + 2)))) h3_23 (sh_23 ρ1) ⟨_, _, clk12⟩ rfl (Nat.le_of_ble_eq_true rfl) ⟨(Nat.le_of_ble_eq_true rfl), (Nat.le_of_ble_eq_true rfl), fitD hk.1 (by decide), fitD hk.2 (by decide)⟩ dL_law_382 rfl ?_
  show WW _ _ _ 385 _ [.int r, .int r] (full d2 ρ1) _ _ _
  refine WW.icmpH (pc := 385) 1189 dL_law_385 (by decide) ?_
  exact WW.wide (kc' := kc + 1) (ks' := ks + 2) (fitD (Nat.le_refl _) (by decide)) (fitD (Nat.le_refl _) (by decide)) kk
set_option maxHeartbeats 4000000 in
set_option maxRecDepth 100000 in
theorem law_8 {g : Gx} {hf : HP} {ρ : Rh} (hρ : Hr ρ) {d : Dd} {i : Int32} {r : Int32} {kc ks : Nat} (hk : kc + 1 ≤ 600000 ∧ ks + 2 ≤ 7302250) (hin : ∀ j : Int32, j ∈ [1, 2, 3, 4, 5, 6] → inB (i + j) ρ.2.2 = true) (e1 : fX11_as ρ d (d_i d 2 (ix (i + 1))) (d_i d 2 (ix (i + 2))) = some r) (e2 : fX12_as ρ d (d_i d 2 (ix (i + 1))) (d_i d 2 (ix (i + 2))) = some r) (kk : WW g M_L_law (eF hf) 1189 (LH i) [] (full d ρ) (kc + 1) (ks + 2) (some ())) : WW g M_L_law (eF hf) 390 (LH i) [] (full d ρ) kc ks (some ()) := by
  refine WW.aload_n (pc := 390) (j := 1) rfl dL_law_390 ?_
  refine WW.aload_n (pc := 391) (j := 0) rfl dL_law_391 ?_
  refine WW.iload_n (pc := 392) (j := 3) rfl dL_law_392 ?_
  refine WW.iconst (pc := 393) 1 dL_law_393 rfl ?_
  refine WW.iadd (pc := 394) dL_law_394 ?_
  refine WW.ialdH (pc := 395) (hin 1 (by decide)) (by decide) (sh_2 ρ) dL_law_395 ?_
  show WW _ _ _ 396 _ [.int (d_i d 2 (ix (i + 1))), .ref 3] (full d ρ) _ _ _
  refine WW.aload_n (pc := 396) (j := 0) rfl dL_law_396 ?_
  refine WW.iload_n (pc := 397) (j := 3) rfl dL_law_397 ?_
  refine WW.iconst (pc := 398) 2 dL_law_398 rfl ?_
  refine WW.iadd (pc := 399) dL_law_399 ?_
  refine WW.ialdH (pc := 400) (hin 2 (by decide)) (by decide) (sh_2 ρ) dL_law_400 ?_
  show WW _ _ _ 401 _ [.int (d_i d 2 (ix (i + 2))), .int (d_i d 2 (ix (i + 1))), .ref 3] (full d ρ) _ _ _
  refine WW.callVH (pc := 401) (As := [.int (d_i d 2 (ix (i + 1))), .int (d_i d 2 (ix (i + 2)))]) (st := []) e1 lk_L_51 (okX11_as g ρ hρ d (d_i d 2 (ix (i + 1))) (d_i d 2 (ix (i + 2)))) h3_3 (sh_3 ρ) ⟨_, _, clk11⟩ rfl (Nat.le_of_ble_eq_true rfl) ⟨(Nat.le_of_ble_eq_true rfl), (Nat.le_of_ble_eq_true rfl), fitC hk.1 (by decide), fitC hk.2 (by decide)⟩ dL_law_401 rfl ?_
  show WW _ _ _ 404 _ [.int r] (full d ρ) _ _ _
  refine WW.aload_n (pc := 404) (j := 2) rfl dL_law_404 ?_
  refine WW.aload_n (pc := 405) (j := 0) rfl dL_law_405 ?_
  refine WW.iload_n (pc := 406) (j := 3) rfl dL_law_406 ?_
  refine WW.iconst (pc := 407) 1 dL_law_407 rfl ?_
  refine WW.iadd (pc := 408) dL_law_408 ?_
  refine WW.ialdH (pc := 409) (hin 1 (by decide)) (by decide) (sh_2 ρ) dL_law_409 ?_
  show WW _ _ _ 410 _ [.int (d_i d 2 (ix (i + 1))), .ref 23, .int r] (full d ρ) _ _ _
  refine WW.aload_n (pc := 410) (j := 0) rfl dL_law_410 ?_
  refine WW.iload_n (pc := 411) (j := 3) rfl dL_law_411 ?_
  refine WW.iconst (pc := 412) 2 dL_law_412 rfl ?_
  refine WW.iadd (pc := 413) dL_law_413 ?_
  refine WW.ialdH (pc := 414) (hin 2 (by decide)) (by decide) (sh_2 ρ) dL_law_414 ?_
  show WW _ _ _ 415 _ [.int (d_i d 2 (ix (i + 2))), .int (d_i d 2 (ix (i + 1))), .ref 23, .int r] (full d ρ) _ _ _
  refine WW.callVH (pc := 415) (As := [.int (d_i d 2 (ix (i + 1))), .int (d_i d 2 (ix (i + 2)))]) (st := [.int r]) e2 lk_L_54 (okX12_as g ρ hρ d (d_i d 2 (ix (i + 1))) (d_i d 2 (ix (i + 2)))) h3_23 (sh_23 ρ) ⟨_, _, clk12⟩ rfl (Nat.le_of_ble_eq_true rfl) ⟨(Nat.le_of_ble_eq_true rfl), (Nat.le_of_ble_eq_true rfl), fitD hk.1 (by decide), fitD hk.2 (by decide)⟩ dL_law_415 rfl ?_
  show WW _ _ _ 418 _ [.int r, .int r] (full d ρ) _ _ _
  refine WW.icmpH (pc := 418) 1189 dL_law_418 (by decide) ?_
  exact WW.wide (kc' := kc + 1) (ks' := ks + 2) (fitD (Nat.le_refl _) (by decide)) (fitD (Nat.le_refl _) (by decide)) kk
set_option maxHeartbeats 4000000 in
set_option maxRecDepth 100000 in
theorem law_9 {g : Gx} {hf : HP} {ρ : Rh} (hρ : Hr ρ) {d d1 : Dd} {i : Int32} {r : Int64} {kc ks : Nat} (hk : kc + 1 ≤ 600000 ∧ ks + 2 ≤ 7302250) (hin : ∀ j : Int32, j ∈ [1, 2, 3, 4, 5, 6] → inB (i + j) ρ.2.2 = true) (e1 : fX11_heard ρ d (d_i d 2 (ix (i + 1))) (d_i d 2 (ix (i + 2))) (d_i d 2 (ix (i + 3))) = some (r, d1)) (e2 : fX12_heard ρ d1 (d_i d1 2 (ix (i + 1))) (d_i d1 2 (ix (i + 2))) (d_i d1 2 (ix (i + 3))) = some r) (kk : WW g M_L_law (eF hf) 1189 (LH i) [] (full d1 ρ) (kc + 1) (ks + 2) (some ())) : WW g M_L_law (eF hf) 423 (LH i) [] (full d ρ) kc ks (some ()) := by
  refine WW.aload_n (pc := 423) (j := 1) rfl dL_law_423 ?_
  refine WW.aload_n (pc := 424) (j := 0) rfl dL_law_424 ?_
  refine WW.iload_n (pc := 425) (j := 3) rfl dL_law_425 ?_
  refine WW.iconst (pc := 426) 1 dL_law_426 rfl ?_
  refine WW.iadd (pc := 427) dL_law_427 ?_
  refine WW.ialdH (pc := 428) (hin 1 (by decide)) (by decide) (sh_2 ρ) dL_law_428 ?_
  show WW _ _ _ 429 _ [.int (d_i d 2 (ix (i + 1))), .ref 3] (full d ρ) _ _ _
  refine WW.aload_n (pc := 429) (j := 0) rfl dL_law_429 ?_
  refine WW.iload_n (pc := 430) (j := 3) rfl dL_law_430 ?_
  refine WW.iconst (pc := 431) 2 dL_law_431 rfl ?_
  refine WW.iadd (pc := 432) dL_law_432 ?_
  refine WW.ialdH (pc := 433) (hin 2 (by decide)) (by decide) (sh_2 ρ) dL_law_433 ?_
  show WW _ _ _ 434 _ [.int (d_i d 2 (ix (i + 2))), .int (d_i d 2 (ix (i + 1))), .ref 3] (full d ρ) _ _ _
  refine WW.aload_n (pc := 434) (j := 0) rfl dL_law_434 ?_
  refine WW.iload_n (pc := 435) (j := 3) rfl dL_law_435 ?_
  refine WW.iconst (pc := 436) 3 dL_law_436 rfl ?_
  refine WW.iadd (pc := 437) dL_law_437 ?_
  refine WW.ialdH (pc := 438) (hin 3 (by decide)) (by decide) (sh_2 ρ) dL_law_438 ?_
  show WW _ _ _ 439 _ [.int (d_i d 2 (ix (i + 3))), .int (d_i d 2 (ix (i + 2))), .int (d_i d 2 (ix (i + 1))), .ref 3] (full d ρ) _ _ _
  refine WW.callVH (pc := 439) (As := [.int (d_i d 2 (ix (i + 1))), .int (d_i d 2 (ix (i + 2))), .int (d_i d 2 (ix (i + 3)))]) (st := []) e1 lk_L_55 (okX11_heard g ρ hρ d (d_i d 2 (ix (i + 1))) (d_i d 2 (ix (i + 2))) (d_i d 2 (ix (i + 3)))) h3_3 (sh_3 ρ) ⟨_, _, clk11⟩ rfl (Nat.le_of_ble_eq_true rfl) ⟨(Nat.le_of_ble_eq_true rfl), (Nat.le_of_ble_eq_true rfl), fitC hk.1 (by decide), fitC hk.2 (by decide)⟩ dL_law_439 rfl ?_
  show WW _ _ _ 442 _ [.long r] (full d1 ρ) _ _ _
  refine WW.aload_n (pc := 442) (j := 2) rfl dL_law_442 ?_
  refine WW.aload_n (pc := 443) (j := 0) rfl dL_law_443 ?_
  refine WW.iload_n (pc := 444) (j := 3) rfl dL_law_444 ?_
  refine WW.iconst (pc := 445) 1 dL_law_445 rfl ?_
  refine WW.iadd (pc := 446) dL_law_446 ?_
  refine WW.ialdH (pc := 447) (hin 1 (by decide)) (by decide) (sh_2 ρ) dL_law_447 ?_
  show WW _ _ _ 448 _ [.int (d_i d1 2 (ix (i + 1))), .ref 23, .long r] (full d1 ρ) _ _ _
  refine WW.aload_n (pc := 448) (j := 0) rfl dL_law_448 ?_
  refine WW.iload_n (pc := 449) (j := 3) rfl dL_law_449 ?_
  refine WW.iconst (pc := 450) 2 dL_law_450 rfl ?_
  refine WW.iadd (pc := 451) dL_law_451 ?_
  refine WW.ialdH (pc := 452) (hin 2 (by decide)) (by decide) (sh_2 ρ) dL_law_452 ?_
  show WW _ _ _ 453 _ [.int (d_i d1 2 (ix (i + 2))), .int (d_i d1 2 (ix (i + 1))), .ref 23, .long r] (full d1 ρ) _ _ _
  refine WW.aload_n (pc := 453) (j := 0) rfl dL_law_453 ?_
  refine WW.iload_n (pc := 454) (j := 3) rfl dL_law_454 ?_
  refine WW.iconst (pc := 455) 3 dL_law_455 rfl ?_
  refine WW.iadd (pc := 456) dL_law_456 ?_
  refine WW.ialdH (pc := 457) (hin 3 (by decide)) (by decide) (sh_2 ρ) dL_law_457 ?_
  show WW _ _ _ 458 _ [.int (d_i d1 2 (ix (i + 3))), .int (d_i d1 2 (ix (i + 2))), .int (d_i d1 2 (ix (i + 1))), .ref 23, .long r] (full d1 ρ) _ _ _
  refine WW.callVH (pc := 458) (As := [.int (d_i d1 2 (ix (i + 1))), .int (d_i d1 2 (ix (i + 2))), .int (d_i d1 2 (ix (i + 3)))]) (st := [.long r]) e2 lk_L_59 (okX12_heard g ρ hρ d1 (d_i d1 2 (ix (i + 1))) (d_i d1 2 (ix (i + 2))) (d_i d1 2 (ix (i + 3)))) h3_23 (sh_23 ρ) ⟨_, _, clk12⟩ rfl (Nat.le_of_ble_eq_true rfl) ⟨(Nat.le_of_ble_eq_true rfl), (Nat.le_of_ble_eq_true rfl), fitD hk.1 (by decide), fitD hk.2 (by decide)⟩ dL_law_458 rfl ?_
  show WW _ _ _ 461 _ [.long r, .long r] (full d1 ρ) _ _ _
  refine WW.lcmpH (pc := 461) 1189 dL_law_461 dL_law_462 (by decide) ?_
  exact WW.wide (kc' := kc + 1) (ks' := ks + 2) (fitD (Nat.le_refl _) (by decide)) (fitD (Nat.le_refl _) (by decide)) kk
set_option maxHeartbeats 4000000 in
set_option maxRecDepth 100000 in
theorem law_10 {g : Gx} {hf : HP} {ρ : Rh} (hρ : Hr ρ) {d d1 : Dd} {i : Int32} {r : Int64} {kc ks : Nat} (hk : kc + 1 ≤ 600000 ∧ ks + 2 ≤ 7302250) (hin : ∀ j : Int32, j ∈ [1, 2, 3, 4, 5, 6] → inB (i + j) ρ.2.2 = true) (e1 : fX11_edge ρ d (d_i d 2 (ix (i + 1))) (d_i d 2 (ix (i + 2))) (d_i d 2 (ix (i + 3))) = some (r, d1)) (e2 : fX12_edge ρ d1 (d_i d1 2 (ix (i + 1))) (d_i d1 2 (ix (i + 2))) (d_i d1 2 (ix (i + 3))) = some r) (kk : WW g M_L_law (eF hf) 1189 (LH i) [] (full d1 ρ) (kc + 1) (ks + 2) (some ())) : WW g M_L_law (eF hf) 467 (LH i) [] (full d ρ) kc ks (some ()) := by
  refine WW.aload_n (pc := 467) (j := 1) rfl dL_law_467 ?_
  refine WW.aload_n (pc := 468) (j := 0) rfl dL_law_468 ?_
  refine WW.iload_n (pc := 469) (j := 3) rfl dL_law_469 ?_
  refine WW.iconst (pc := 470) 1 dL_law_470 rfl ?_
  refine WW.iadd (pc := 471) dL_law_471 ?_
  refine WW.ialdH (pc := 472) (hin 1 (by decide)) (by decide) (sh_2 ρ) dL_law_472 ?_
  show WW _ _ _ 473 _ [.int (d_i d 2 (ix (i + 1))), .ref 3] (full d ρ) _ _ _
  refine WW.aload_n (pc := 473) (j := 0) rfl dL_law_473 ?_
  refine WW.iload_n (pc := 474) (j := 3) rfl dL_law_474 ?_
  refine WW.iconst (pc := 475) 2 dL_law_475 rfl ?_
  refine WW.iadd (pc := 476) dL_law_476 ?_
  refine WW.ialdH (pc := 477) (hin 2 (by decide)) (by decide) (sh_2 ρ) dL_law_477 ?_
  show WW _ _ _ 478 _ [.int (d_i d 2 (ix (i + 2))), .int (d_i d 2 (ix (i + 1))), .ref 3] (full d ρ) _ _ _
  refine WW.aload_n (pc := 478) (j := 0) rfl dL_law_478 ?_
  refine WW.iload_n (pc := 479) (j := 3) rfl dL_law_479 ?_
  refine WW.iconst (pc := 480) 3 dL_law_480 rfl ?_
  refine WW.iadd (pc := 481) dL_law_481 ?_
  refine WW.ialdH (pc := 482) (hin 3 (by decide)) (by decide) (sh_2 ρ) dL_law_482 ?_
  show WW _ _ _ 483 _ [.int (d_i d 2 (ix (i + 3))), .int (d_i d 2 (ix (i + 2))), .int (d_i d 2 (ix (i + 1))), .ref 3] (full d ρ) _ _ _
  refine WW.callVH (pc := 483) (As := [.int (d_i d 2 (ix (i + 1))), .int (d_i d 2 (ix (i + 2))), .int (d_i d 2 (ix (i + 3)))]) (st := []) e1 lk_L_60 (okX11_edge g ρ hρ d (d_i d 2 (ix (i + 1))) (d_i d 2 (ix (i + 2))) (d_i d 2 (ix (i + 3)))) h3_3 (sh_3 ρ) ⟨_, _, clk11⟩ rfl (Nat.le_of_ble_eq_true rfl) ⟨(Nat.le_of_ble_eq_true rfl), (Nat.le_of_ble_eq_true rfl), fitC hk.1 (by decide), fitC hk.2 (by decide)⟩ dL_law_483 rfl ?_
  show WW _ _ _ 486 _ [.long r] (full d1 ρ) _ _ _
  refine WW.aload_n (pc := 486) (j := 2) rfl dL_law_486 ?_
  refine WW.aload_n (pc := 487) (j := 0) rfl dL_law_487 ?_
  refine WW.iload_n (pc := 488) (j := 3) rfl dL_law_488 ?_
  refine WW.iconst (pc := 489) 1 dL_law_489 rfl ?_
  refine WW.iadd (pc := 490) dL_law_490 ?_
  refine WW.ialdH (pc := 491) (hin 1 (by decide)) (by decide) (sh_2 ρ) dL_law_491 ?_
  show WW _ _ _ 492 _ [.int (d_i d1 2 (ix (i + 1))), .ref 23, .long r] (full d1 ρ) _ _ _
  refine WW.aload_n (pc := 492) (j := 0) rfl dL_law_492 ?_
  refine WW.iload_n (pc := 493) (j := 3) rfl dL_law_493 ?_
  refine WW.iconst (pc := 494) 2 dL_law_494 rfl ?_
  refine WW.iadd (pc := 495) dL_law_495 ?_
  refine WW.ialdH (pc := 496) (hin 2 (by decide)) (by decide) (sh_2 ρ) dL_law_496 ?_
  show WW _ _ _ 497 _ [.int (d_i d1 2 (ix (i + 2))), .int (d_i d1 2 (ix (i + 1))), .ref 23, .long r] (full d1 ρ) _ _ _
  refine WW.aload_n (pc := 497) (j := 0) rfl dL_law_497 ?_
  refine WW.iload_n (pc := 498) (j := 3) rfl dL_law_498 ?_
  refine WW.iconst (pc := 499) 3 dL_law_499 rfl ?_
  refine WW.iadd (pc := 500) dL_law_500 ?_
  refine WW.ialdH (pc := 501) (hin 3 (by decide)) (by decide) (sh_2 ρ) dL_law_501 ?_
  show WW _ _ _ 502 _ [.int (d_i d1 2 (ix (i + 3))), .int (d_i d1 2 (ix (i + 2))), .int (d_i d1 2 (ix (i + 1))), .ref 23, .long r] (full d1 ρ) _ _ _
  refine WW.callVH (pc := 502) (As := [.int (d_i d1 2 (ix (i + 1))), .int (d_i d1 2 (ix (i + 2))), .int (d_i d1 2 (ix (i + 3)))]) (st := [.long r]) e2 lk_L_63 (okX12_edge g ρ hρ d1 (d_i d1 2 (ix (i + 1))) (d_i d1 2 (ix (i + 2))) (d_i d1 2 (ix (i + 3)))) h3_23 (sh_23 ρ) ⟨_, _, clk12⟩ rfl (Nat.le_of_ble_eq_true rfl) ⟨(Nat.le_of_ble_eq_true rfl), (Nat.le_of_ble_eq_true rfl), fitD hk.1 (by decide), fitD hk.2 (by decide)⟩ dL_law_502 rfl ?_
  show WW _ _ _ 505 _ [.long r, .long r] (full d1 ρ) _ _ _
  refine WW.lcmpH (pc := 505) 1189 dL_law_505 dL_law_506 (by decide) ?_
  exact WW.wide (kc' := kc + 1) (ks' := ks + 2) (fitD (Nat.le_refl _) (by decide)) (fitD (Nat.le_refl _) (by decide)) kk
set_option maxHeartbeats 4000000 in
set_option maxRecDepth 100000 in
theorem law_11 {g : Gx} {hf : HP} {ρ : Rh} (hρ : Hr ρ) {d d1 d2 : Dd} {i : Int32} {r : Int32} {kc ks : Nat} (hk : kc + 1 ≤ 600000 ∧ ks + 2 ≤ 7302250) (hin : ∀ j : Int32, j ∈ [1, 2, 3, 4, 5, 6] → inB (i + j) ρ.2.2 = true) (e1 : fX11_rests ρ d (d_i d 2 (ix (i + 1))) (d_i d 2 (ix (i + 2))) (d_i d 2 (ix (i + 3))) (d_i d 2 (ix (i + 4))) = some (r, d1)) (e2 : fX12_rests ρ d1 (d_i d1 2 (ix (i + 1))) (d_i d1 2 (ix (i + 2))) (d_i d1 2 (ix (i + 3))) (d_i d1 2 (ix (i + 4))) = some (r, d2)) (kk : WW g M_L_law (eF hf) 1189 (LH i) [] (full d2 ρ) (kc + 1) (ks + 2) (some ())) : WW g M_L_law (eF hf) 511 (LH i) [] (full d ρ) kc ks (some ()) := by
  refine WW.aload_n (pc := 511) (j := 1) rfl dL_law_511 ?_
  refine WW.aload_n (pc := 512) (j := 0) rfl dL_law_512 ?_
  refine WW.iload_n (pc := 513) (j := 3) rfl dL_law_513 ?_
  refine WW.iconst (pc := 514) 1 dL_law_514 rfl ?_
  refine WW.iadd (pc := 515) dL_law_515 ?_
  refine WW.ialdH (pc := 516) (hin 1 (by decide)) (by decide) (sh_2 ρ) dL_law_516 ?_
  show WW _ _ _ 517 _ [.int (d_i d 2 (ix (i + 1))), .ref 3] (full d ρ) _ _ _
  refine WW.aload_n (pc := 517) (j := 0) rfl dL_law_517 ?_
  refine WW.iload_n (pc := 518) (j := 3) rfl dL_law_518 ?_
  refine WW.iconst (pc := 519) 2 dL_law_519 rfl ?_
  refine WW.iadd (pc := 520) dL_law_520 ?_
  refine WW.ialdH (pc := 521) (hin 2 (by decide)) (by decide) (sh_2 ρ) dL_law_521 ?_
  show WW _ _ _ 522 _ [.int (d_i d 2 (ix (i + 2))), .int (d_i d 2 (ix (i + 1))), .ref 3] (full d ρ) _ _ _
  refine WW.aload_n (pc := 522) (j := 0) rfl dL_law_522 ?_
  refine WW.iload_n (pc := 523) (j := 3) rfl dL_law_523 ?_
  refine WW.iconst (pc := 524) 3 dL_law_524 rfl ?_
  refine WW.iadd (pc := 525) dL_law_525 ?_
  refine WW.ialdH (pc := 526) (hin 3 (by decide)) (by decide) (sh_2 ρ) dL_law_526 ?_
  show WW _ _ _ 527 _ [.int (d_i d 2 (ix (i + 3))), .int (d_i d 2 (ix (i + 2))), .int (d_i d 2 (ix (i + 1))), .ref 3] (full d ρ) _ _ _
  refine WW.aload_n (pc := 527) (j := 0) rfl dL_law_527 ?_
  refine WW.iload_n (pc := 528) (j := 3) rfl dL_law_528 ?_
  refine WW.iconst (pc := 529) 4 dL_law_529 rfl ?_
  refine WW.iadd (pc := 530) dL_law_530 ?_
  refine WW.ialdH (pc := 531) (hin 4 (by decide)) (by decide) (sh_2 ρ) dL_law_531 ?_
  show WW _ _ _ 532 _ [.int (d_i d 2 (ix (i + 4))), .int (d_i d 2 (ix (i + 3))), .int (d_i d 2 (ix (i + 2))), .int (d_i d 2 (ix (i + 1))), .ref 3] (full d ρ) _ _ _
  refine WW.callVH (pc := 532) (As := [.int (d_i d 2 (ix (i + 1))), .int (d_i d 2 (ix (i + 2))), .int (d_i d 2 (ix (i + 3))), .int (d_i d 2 (ix (i + 4)))]) (st := []) e1 lk_L_64 (okX11_rests g ρ hρ d (d_i d 2 (ix (i + 1))) (d_i d 2 (ix (i + 2))) (d_i d 2 (ix (i + 3))) (d_i d 2 (ix (i + 4)))) h3_3 (sh_3 ρ) ⟨_, _, clk11⟩ rfl (Nat.le_of_ble_eq_true rfl) ⟨(Nat.le_of_ble_eq_true rfl), (Nat.le_of_ble_eq_true rfl), fitC hk.1 (by decide), fitC hk.2 (by decide)⟩ dL_law_532 rfl ?_
  show WW _ _ _ 535 _ [.int r] (full d1 ρ) _ _ _
  refine WW.aload_n (pc := 535) (j := 2) rfl dL_law_535 ?_
  refine WW.aload_n (pc := 536) (j := 0) rfl dL_law_536 ?_
  refine WW.iload_n (pc := 537) (j := 3) rfl dL_law_537 ?_
  refine WW.iconst (pc := 538) 1 dL_law_538 rfl ?_
  refine WW.iadd (pc := 539) dL_law_539 ?_
  refine WW.ialdH (pc := 540) (hin 1 (by decide)) (by decide) (sh_2 ρ) dL_law_540 ?_
  show WW _ _ _ 541 _ [.int (d_i d1 2 (ix (i + 1))), .ref 23, .int r] (full d1 ρ) _ _ _
  refine WW.aload_n (pc := 541) (j := 0) rfl dL_law_541 ?_
  refine WW.iload_n (pc := 542) (j := 3) rfl dL_law_542 ?_
  refine WW.iconst (pc := 543) 2 dL_law_543 rfl ?_
  refine WW.iadd (pc := 544) dL_law_544 ?_
  refine WW.ialdH (pc := 545) (hin 2 (by decide)) (by decide) (sh_2 ρ) dL_law_545 ?_
  show WW _ _ _ 546 _ [.int (d_i d1 2 (ix (i + 2))), .int (d_i d1 2 (ix (i + 1))), .ref 23, .int r] (full d1 ρ) _ _ _
  refine WW.aload_n (pc := 546) (j := 0) rfl dL_law_546 ?_
  refine WW.iload_n (pc := 547) (j := 3) rfl dL_law_547 ?_
  refine WW.iconst (pc := 548) 3 dL_law_548 rfl ?_
  refine WW.iadd (pc := 549) dL_law_549 ?_
  refine WW.ialdH (pc := 550) (hin 3 (by decide)) (by decide) (sh_2 ρ) dL_law_550 ?_
  show WW _ _ _ 551 _ [.int (d_i d1 2 (ix (i + 3))), .int (d_i d1 2 (ix (i + 2))), .int (d_i d1 2 (ix (i + 1))), .ref 23, .int r] (full d1 ρ) _ _ _
  refine WW.aload_n (pc := 551) (j := 0) rfl dL_law_551 ?_
  refine WW.iload_n (pc := 552) (j := 3) rfl dL_law_552 ?_
  refine WW.iconst (pc := 553) 4 dL_law_553 rfl ?_
  refine WW.iadd (pc := 554) dL_law_554 ?_
  refine WW.ialdH (pc := 555) (hin 4 (by decide)) (by decide) (sh_2 ρ) dL_law_555 ?_
  show WW _ _ _ 556 _ [.int (d_i d1 2 (ix (i + 4))), .int (d_i d1 2 (ix (i + 3))), .int (d_i d1 2 (ix (i + 2))), .int (d_i d1 2 (ix (i + 1))), .ref 23, .int r] (full d1 ρ) _ _ _
  refine WW.callVH (pc := 556) (As := [.int (d_i d1 2 (ix (i + 1))), .int (d_i d1 2 (ix (i + 2))), .int (d_i d1 2 (ix (i + 3))), .int (d_i d1 2 (ix (i + 4)))]) (st := [.int r]) e2 lk_L_68 (okX12_rests g ρ hρ d1 (d_i d1 2 (ix (i + 1))) (d_i d1 2 (ix (i + 2))) (d_i d1 2 (ix (i + 3))) (d_i d1 2 (ix (i + 4)))) h3_23 (sh_23 ρ) ⟨_, _, clk12⟩ rfl (Nat.le_of_ble_eq_true rfl) ⟨(Nat.le_of_ble_eq_true rfl), (Nat.le_of_ble_eq_true rfl), fitD hk.1 (by decide), fitD hk.2 (by decide)⟩ dL_law_556 rfl ?_
  show WW _ _ _ 559 _ [.int r, .int r] (full d2 ρ) _ _ _
  refine WW.icmpH (pc := 559) 1189 dL_law_559 (by decide) ?_
  exact WW.wide (kc' := kc + 1) (ks' := ks + 2) (fitD (Nat.le_refl _) (by decide)) (fitD (Nat.le_refl _) (by decide)) kk
set_option maxHeartbeats 4000000 in
set_option maxRecDepth 100000 in
theorem law_12 {g : Gx} {hf : HP} {ρ : Rh} (hρ : Hr ρ) {d d1 d2 : Dd} {i : Int32} {r : Int64} {kc ks : Nat} (hk : kc + 1 ≤ 600000 ∧ ks + 2 ≤ 7302250) (hin : ∀ j : Int32, j ∈ [1, 2, 3, 4, 5, 6] → inB (i + j) ρ.2.2 = true) (e1 : fX11_makes ρ d (d_i d 2 (ix (i + 1))) (d_i d 2 (ix (i + 2))) (d_i d 2 (ix (i + 3))) (d_i d 2 (ix (i + 4))) (d_i d 2 (ix (i + 5))) = some (r, d1)) (e2 : fX12_makes ρ d1 (d_i d1 2 (ix (i + 1))) (d_i d1 2 (ix (i + 2))) (d_i d1 2 (ix (i + 3))) (d_i d1 2 (ix (i + 4))) (d_i d1 2 (ix (i + 5))) = some (r, d2)) (kk : WW g M_L_law (eF hf) 1189 (LH i) [] (full d2 ρ) (kc + 1) (ks + 2) (some ())) : WW g M_L_law (eF hf) 564 (LH i) [] (full d ρ) kc ks (some ()) := by
  refine WW.aload_n (pc := 564) (j := 1) rfl dL_law_564 ?_
  refine WW.aload_n (pc := 565) (j := 0) rfl dL_law_565 ?_
  refine WW.iload_n (pc := 566) (j := 3) rfl dL_law_566 ?_
  refine WW.iconst (pc := 567) 1 dL_law_567 rfl ?_
  refine WW.iadd (pc := 568) dL_law_568 ?_
  refine WW.ialdH (pc := 569) (hin 1 (by decide)) (by decide) (sh_2 ρ) dL_law_569 ?_
  show WW _ _ _ 570 _ [.int (d_i d 2 (ix (i + 1))), .ref 3] (full d ρ) _ _ _
  refine WW.aload_n (pc := 570) (j := 0) rfl dL_law_570 ?_
  refine WW.iload_n (pc := 571) (j := 3) rfl dL_law_571 ?_
  refine WW.iconst (pc := 572) 2 dL_law_572 rfl ?_
  refine WW.iadd (pc := 573) dL_law_573 ?_
  refine WW.ialdH (pc := 574) (hin 2 (by decide)) (by decide) (sh_2 ρ) dL_law_574 ?_
  show WW _ _ _ 575 _ [.int (d_i d 2 (ix (i + 2))), .int (d_i d 2 (ix (i + 1))), .ref 3] (full d ρ) _ _ _
  refine WW.aload_n (pc := 575) (j := 0) rfl dL_law_575 ?_
  refine WW.iload_n (pc := 576) (j := 3) rfl dL_law_576 ?_
  refine WW.iconst (pc := 577) 3 dL_law_577 rfl ?_
  refine WW.iadd (pc := 578) dL_law_578 ?_
  refine WW.ialdH (pc := 579) (hin 3 (by decide)) (by decide) (sh_2 ρ) dL_law_579 ?_
  show WW _ _ _ 580 _ [.int (d_i d 2 (ix (i + 3))), .int (d_i d 2 (ix (i + 2))), .int (d_i d 2 (ix (i + 1))), .ref 3] (full d ρ) _ _ _
  refine WW.aload_n (pc := 580) (j := 0) rfl dL_law_580 ?_
  refine WW.iload_n (pc := 581) (j := 3) rfl dL_law_581 ?_
  refine WW.iconst (pc := 582) 4 dL_law_582 rfl ?_
  refine WW.iadd (pc := 583) dL_law_583 ?_
  refine WW.ialdH (pc := 584) (hin 4 (by decide)) (by decide) (sh_2 ρ) dL_law_584 ?_
  show WW _ _ _ 585 _ [.int (d_i d 2 (ix (i + 4))), .int (d_i d 2 (ix (i + 3))), .int (d_i d 2 (ix (i + 2))), .int (d_i d 2 (ix (i + 1))), .ref 3] (full d ρ) _ _ _
  refine WW.aload_n (pc := 585) (j := 0) rfl dL_law_585 ?_
  refine WW.iload_n (pc := 586) (j := 3) rfl dL_law_586 ?_
  refine WW.iconst (pc := 587) 5 dL_law_587 rfl ?_
  refine WW.iadd (pc := 588) dL_law_588 ?_
  refine WW.ialdH (pc := 589) (hin 5 (by decide)) (by decide) (sh_2 ρ) dL_law_589 ?_
  show WW _ _ _ 590 _ [.int (d_i d 2 (ix (i + 5))), .int (d_i d 2 (ix (i + 4))), .int (d_i d 2 (ix (i + 3))), .int (d_i d 2 (ix (i + 2))), .int (d_i d 2 (ix (i + 1))), .ref 3] (full d ρ) _ _ _
  refine WW.callVH (pc := 590) (As := [.int (d_i d 2 (ix (i + 1))), .int (d_i d 2 (ix (i + 2))), .int (d_i d 2 (ix (i + 3))), .int (d_i d 2 (ix (i + 4))), .int (d_i d 2 (ix (i + 5)))]) (st := []) e1 lk_L_69 (okX11_makes g ρ hρ d (d_i d 2 (ix (i + 1))) (d_i d 2 (ix (i + 2))) (d_i d 2 (ix (i + 3))) (d_i d 2 (ix (i + 4))) (d_i d 2 (ix (i + 5)))) h3_3 (sh_3 ρ) ⟨_, _, clk11⟩ rfl (Nat.le_of_ble_eq_true rfl) ⟨(Nat.le_of_ble_eq_true rfl), (Nat.le_of_ble_eq_true rfl), fitC hk.1 (by decide), fitC hk.2 (by decide)⟩ dL_law_590 rfl ?_
  show WW _ _ _ 593 _ [.long r] (full d1 ρ) _ _ _
  refine WW.aload_n (pc := 593) (j := 2) rfl dL_law_593 ?_
  refine WW.aload_n (pc := 594) (j := 0) rfl dL_law_594 ?_
  refine WW.iload_n (pc := 595) (j := 3) rfl dL_law_595 ?_
  refine WW.iconst (pc := 596) 1 dL_law_596 rfl ?_
  refine WW.iadd (pc := 597) dL_law_597 ?_
  refine WW.ialdH (pc := 598) (hin 1 (by decide)) (by decide) (sh_2 ρ) dL_law_598 ?_
  show WW _ _ _ 599 _ [.int (d_i d1 2 (ix (i + 1))), .ref 23, .long r] (full d1 ρ) _ _ _
  refine WW.aload_n (pc := 599) (j := 0) rfl dL_law_599 ?_
  refine WW.iload_n (pc := 600) (j := 3) rfl dL_law_600 ?_
  refine WW.iconst (pc := 601) 2 dL_law_601 rfl ?_
  refine WW.iadd (pc := 602) dL_law_602 ?_
  refine WW.ialdH (pc := 603) (hin 2 (by decide)) (by decide) (sh_2 ρ) dL_law_603 ?_
  show WW _ _ _ 604 _ [.int (d_i d1 2 (ix (i + 2))), .int (d_i d1 2 (ix (i + 1))), .ref 23, .long r] (full d1 ρ) _ _ _
  refine WW.aload_n (pc := 604) (j := 0) rfl dL_law_604 ?_
  refine WW.iload_n (pc := 605) (j := 3) rfl dL_law_605 ?_
  refine WW.iconst (pc := 606) 3 dL_law_606 rfl ?_
  refine WW.iadd (pc := 607) dL_law_607 ?_
  refine WW.ialdH (pc := 608) (hin 3 (by decide)) (by decide) (sh_2 ρ) dL_law_608 ?_
  show WW _ _ _ 609 _ [.int (d_i d1 2 (ix (i + 3))), .int (d_i d1 2 (ix (i + 2))), .int (d_i d1 2 (ix (i + 1))), .ref 23, .long r] (full d1 ρ) _ _ _
  refine WW.aload_n (pc := 609) (j := 0) rfl dL_law_609 ?_
  refine WW.iload_n (pc := 610) (j := 3) rfl dL_law_610 ?_
  refine WW.iconst (pc := 611) 4 dL_law_611 rfl ?_
  refine WW.iadd (pc := 612) dL_law_612 ?_
  refine WW.ialdH (pc := 613) (hin 4 (by decide)) (by decide) (sh_2 ρ) dL_law_613 ?_
  show WW _ _ _ 614 _ [.int (d_i d1 2 (ix (i + 4))), .int (d_i d1 2 (ix (i + 3))), .int (d_i d1 2 (ix (i + 2))), .int (d_i d1 2 (ix (i + 1))), .ref 23, .long r] (full d1 ρ) _ _ _
  refine WW.aload_n (pc := 614) (j := 0) rfl dL_law_614 ?_
  refine WW.iload_n (pc := 615) (j := 3) rfl dL_law_615 ?_
  refine WW.iconst (pc := 616) 5 dL_law_616 rfl ?_
  refine WW.iadd (pc := 617) dL_law_617 ?_
  refine WW.ialdH (pc := 618) (hin 5 (by decide)) (by decide) (sh_2 ρ) dL_law_618 ?_
  show WW _ _ _ 619 _ [.int (d_i d1 2 (ix (i + 5))), .int (d_i d1 2 (ix (i + 4))), .int (d_i d1 2 (ix (i + 3))), .int (d_i d1 2 (ix (i + 2))), .int (d_i d1 2 (ix (i + 1))), .ref 23, .long r] (full d1 ρ) _ _ _
  refine WW.callVH (pc := 619) (As := [.int (d_i d1 2 (ix (i + 1))), .int (d_i d1 2 (ix (i + 2))), .int (d_i d1 2 (ix (i + 3))), .int (d_i d1 2 (ix (i + 4))), .int (d_i d1 2 (ix (i + 5)))]) (st := [.long r]) e2 lk_L_73 (okX12_makes g ρ hρ d1 (d_i d1 2 (ix (i + 1))) (d_i d1 2 (ix (i + 2))) (d_i d1 2 (ix (i + 3))) (d_i d1 2 (ix (i + 4))) (d_i d1 2 (ix (i + 5)))) h3_23 (sh_23 ρ) ⟨_, _, clk12⟩ rfl (Nat.le_of_ble_eq_true rfl) ⟨(Nat.le_of_ble_eq_true rfl), (Nat.le_of_ble_eq_true rfl), fitD hk.1 (by decide), fitD hk.2 (by decide)⟩ dL_law_619 rfl ?_
  show WW _ _ _ 622 _ [.long r, .long r] (full d2 ρ) _ _ _
  refine WW.lcmpH (pc := 622) 1189 dL_law_622 dL_law_623 (by decide) ?_
  exact WW.wide (kc' := kc + 1) (ks' := ks + 2) (fitD (Nat.le_refl _) (by decide)) (fitD (Nat.le_refl _) (by decide)) kk
set_option maxHeartbeats 4000000 in
set_option maxRecDepth 100000 in
theorem law_13 {g : Gx} {hf : HP} {ρ : Rh} (hρ : Hr ρ) {d d1 d2 : Dd} {i : Int32} {r : Int64} {kc ks : Nat} (hk : kc + 1 ≤ 600000 ∧ ks + 2 ≤ 7302250) (hin : ∀ j : Int32, j ∈ [1, 2, 3, 4, 5, 6] → inB (i + j) ρ.2.2 = true) (e1 : fX11_worth ρ d (d_i d 2 (ix (i + 1))) (d_i d 2 (ix (i + 2))) (d_i d 2 (ix (i + 3))) (d_i d 2 (ix (i + 4))) = some (r, d1)) (e2 : fX12_worth ρ d1 (d_i d1 2 (ix (i + 1))) (d_i d1 2 (ix (i + 2))) (d_i d1 2 (ix (i + 3))) (d_i d1 2 (ix (i + 4))) = some (r, d2)) (kk : WW g M_L_law (eF hf) 1189 (LH i) [] (full d2 ρ) (kc + 1) (ks + 2) (some ())) : WW g M_L_law (eF hf) 628 (LH i) [] (full d ρ) kc ks (some ()) := by
  refine WW.aload_n (pc := 628) (j := 1) rfl dL_law_628 ?_
  refine WW.aload_n (pc := 629) (j := 0) rfl dL_law_629 ?_
  refine WW.iload_n (pc := 630) (j := 3) rfl dL_law_630 ?_
  refine WW.iconst (pc := 631) 1 dL_law_631 rfl ?_
  refine WW.iadd (pc := 632) dL_law_632 ?_
  refine WW.ialdH (pc := 633) (hin 1 (by decide)) (by decide) (sh_2 ρ) dL_law_633 ?_
  show WW _ _ _ 634 _ [.int (d_i d 2 (ix (i + 1))), .ref 3] (full d ρ) _ _ _
  refine WW.aload_n (pc := 634) (j := 0) rfl dL_law_634 ?_
  refine WW.iload_n (pc := 635) (j := 3) rfl dL_law_635 ?_
  refine WW.iconst (pc := 636) 2 dL_law_636 rfl ?_
  refine WW.iadd (pc := 637) dL_law_637 ?_
  refine WW.ialdH (pc := 638) (hin 2 (by decide)) (by decide) (sh_2 ρ) dL_law_638 ?_
  show WW _ _ _ 639 _ [.int (d_i d 2 (ix (i + 2))), .int (d_i d 2 (ix (i + 1))), .ref 3] (full d ρ) _ _ _
  refine WW.aload_n (pc := 639) (j := 0) rfl dL_law_639 ?_
  refine WW.iload_n (pc := 640) (j := 3) rfl dL_law_640 ?_
  refine WW.iconst (pc := 641) 3 dL_law_641 rfl ?_
  refine WW.iadd (pc := 642) dL_law_642 ?_
  refine WW.ialdH (pc := 643) (hin 3 (by decide)) (by decide) (sh_2 ρ) dL_law_643 ?_
  show WW _ _ _ 644 _ [.int (d_i d 2 (ix (i + 3))), .int (d_i d 2 (ix (i + 2))), .int (d_i d 2 (ix (i + 1))), .ref 3] (full d ρ) _ _ _
  refine WW.aload_n (pc := 644) (j := 0) rfl dL_law_644 ?_
  refine WW.iload_n (pc := 645) (j := 3) rfl dL_law_645 ?_
  refine WW.iconst (pc := 646) 4 dL_law_646 rfl ?_
  refine WW.iadd (pc := 647) dL_law_647 ?_
  refine WW.ialdH (pc := 648) (hin 4 (by decide)) (by decide) (sh_2 ρ) dL_law_648 ?_
  show WW _ _ _ 649 _ [.int (d_i d 2 (ix (i + 4))), .int (d_i d 2 (ix (i + 3))), .int (d_i d 2 (ix (i + 2))), .int (d_i d 2 (ix (i + 1))), .ref 3] (full d ρ) _ _ _
  refine WW.callVH (pc := 649) (As := [.int (d_i d 2 (ix (i + 1))), .int (d_i d 2 (ix (i + 2))), .int (d_i d 2 (ix (i + 3))), .int (d_i d 2 (ix (i + 4)))]) (st := []) e1 lk_L_74 (okX11_worth g ρ hρ d (d_i d 2 (ix (i + 1))) (d_i d 2 (ix (i + 2))) (d_i d 2 (ix (i + 3))) (d_i d 2 (ix (i + 4)))) h3_3 (sh_3 ρ) ⟨_, _, clk11⟩ rfl (Nat.le_of_ble_eq_true rfl) ⟨(Nat.le_of_ble_eq_true rfl), (Nat.le_of_ble_eq_true rfl), fitC hk.1 (by decide), fitC hk.2 (by decide)⟩ dL_law_649 rfl ?_
  show WW _ _ _ 652 _ [.long r] (full d1 ρ) _ _ _
  refine WW.aload_n (pc := 652) (j := 2) rfl dL_law_652 ?_
  refine WW.aload_n (pc := 653) (j := 0) rfl dL_law_653 ?_
  refine WW.iload_n (pc := 654) (j := 3) rfl dL_law_654 ?_
  refine WW.iconst (pc := 655) 1 dL_law_655 rfl ?_
  refine WW.iadd (pc := 656) dL_law_656 ?_
  refine WW.ialdH (pc := 657) (hin 1 (by decide)) (by decide) (sh_2 ρ) dL_law_657 ?_
  show WW _ _ _ 658 _ [.int (d_i d1 2 (ix (i + 1))), .ref 23, .long r] (full d1 ρ) _ _ _
  refine WW.aload_n (pc := 658) (j := 0) rfl dL_law_658 ?_
  refine WW.iload_n (pc := 659) (j := 3) rfl dL_law_659 ?_
  refine WW.iconst (pc := 660) 2 dL_law_660 rfl ?_
  refine WW.iadd (pc := 661) dL_law_661 ?_
  refine WW.ialdH (pc := 662) (hin 2 (by decide)) (by decide) (sh_2 ρ) dL_law_662 ?_
  show WW _ _ _ 663 _ [.int (d_i d1 2 (ix (i + 2))), .int (d_i d1 2 (ix (i + 1))), .ref 23, .long r] (full d1 ρ) _ _ _
  refine WW.aload_n (pc := 663) (j := 0) rfl dL_law_663 ?_
  refine WW.iload_n (pc := 664) (j := 3) rfl dL_law_664 ?_
  refine WW.iconst (pc := 665) 3 dL_law_665 rfl ?_
  refine WW.iadd (pc := 666) dL_law_666 ?_
  refine WW.ialdH (pc := 667) (hin 3 (by decide)) (by decide) (sh_2 ρ) dL_law_667 ?_
  show WW _ _ _ 668 _ [.int (d_i d1 2 (ix (i + 3))), .int (d_i d1 2 (ix (i + 2))), .int (d_i d1 2 (ix (i + 1))), .ref 23, .long r] (full d1 ρ) _ _ _
  refine WW.aload_n (pc := 668) (j := 0) rfl dL_law_668 ?_
  refine WW.iload_n (pc := 669) (j := 3) rfl dL_law_669 ?_
  refine WW.iconst (pc := 670) 4 dL_law_670 rfl ?_
  refine WW.iadd (pc := 671) dL_law_671 ?_
  refine WW.ialdH (pc := 672) (hin 4 (by decide)) (by decide) (sh_2 ρ) dL_law_672 ?_
  show WW _ _ _ 673 _ [.int (d_i d1 2 (ix (i + 4))), .int (d_i d1 2 (ix (i + 3))), .int (d_i d1 2 (ix (i + 2))), .int (d_i d1 2 (ix (i + 1))), .ref 23, .long r] (full d1 ρ) _ _ _
  refine WW.callVH (pc := 673) (As := [.int (d_i d1 2 (ix (i + 1))), .int (d_i d1 2 (ix (i + 2))), .int (d_i d1 2 (ix (i + 3))), .int (d_i d1 2 (ix (i + 4)))]) (st := [.long r]) e2 lk_L_78 (okX12_worth g ρ hρ d1 (d_i d1 2 (ix (i + 1))) (d_i d1 2 (ix (i + 2))) (d_i d1 2 (ix (i + 3))) (d_i d1 2 (ix (i + 4)))) h3_23 (sh_23 ρ) ⟨_, _, clk12⟩ rfl (Nat.le_of_ble_eq_true rfl) ⟨(Nat.le_of_ble_eq_true rfl), (Nat.le_of_ble_eq_true rfl), fitD hk.1 (by decide), fitD hk.2 (by decide)⟩ dL_law_673 rfl ?_
  show WW _ _ _ 676 _ [.long r, .long r] (full d2 ρ) _ _ _
  refine WW.lcmpH (pc := 676) 1189 dL_law_676 dL_law_677 (by decide) ?_
  exact WW.wide (kc' := kc + 1) (ks' := ks + 2) (fitD (Nat.le_refl _) (by decide)) (fitD (Nat.le_refl _) (by decide)) kk
set_option maxHeartbeats 4000000 in
set_option maxRecDepth 100000 in
theorem law_14 {g : Gx} {hf : HP} {ρ : Rh} (hρ : Hr ρ) {d d1 d2 : Dd} {i : Int32} {r : Int32} {kc ks : Nat} (hk : kc + 1 ≤ 600000 ∧ ks + 2 ≤ 7302250) (hin : ∀ j : Int32, j ∈ [1, 2, 3, 4, 5, 6] → inB (i + j) ρ.2.2 = true) (e1 : fX11_whom ρ d (d_i d 2 (ix (i + 1))) (d_i d 2 (ix (i + 2))) = some (r, d1)) (e2 : fX12_whom ρ d1 (d_i d1 2 (ix (i + 1))) (d_i d1 2 (ix (i + 2))) = some (r, d2)) (kk : WW g M_L_law (eF hf) 1189 (LH i) [] (full d2 ρ) (kc + 1) (ks + 2) (some ())) : WW g M_L_law (eF hf) 682 (LH i) [] (full d ρ) kc ks (some ()) := by
  refine WW.aload_n (pc := 682) (j := 1) rfl dL_law_682 ?_
  refine WW.aload_n (pc := 683) (j := 0) rfl dL_law_683 ?_
  refine WW.iload_n (pc := 684) (j := 3) rfl dL_law_684 ?_
  refine WW.iconst (pc := 685) 1 dL_law_685 rfl ?_
  refine WW.iadd (pc := 686) dL_law_686 ?_
  refine WW.ialdH (pc := 687) (hin 1 (by decide)) (by decide) (sh_2 ρ) dL_law_687 ?_
  show WW _ _ _ 688 _ [.int (d_i d 2 (ix (i + 1))), .ref 3] (full d ρ) _ _ _
  refine WW.aload_n (pc := 688) (j := 0) rfl dL_law_688 ?_
  refine WW.iload_n (pc := 689) (j := 3) rfl dL_law_689 ?_
  refine WW.iconst (pc := 690) 2 dL_law_690 rfl ?_
  refine WW.iadd (pc := 691) dL_law_691 ?_
  refine WW.ialdH (pc := 692) (hin 2 (by decide)) (by decide) (sh_2 ρ) dL_law_692 ?_
  show WW _ _ _ 693 _ [.int (d_i d 2 (ix (i + 2))), .int (d_i d 2 (ix (i + 1))), .ref 3] (full d ρ) _ _ _
  refine WW.callVH (pc := 693) (As := [.int (d_i d 2 (ix (i + 1))), .int (d_i d 2 (ix (i + 2)))]) (st := []) e1 lk_L_79 (okX11_whom g ρ hρ d (d_i d 2 (ix (i + 1))) (d_i d 2 (ix (i + 2)))) h3_3 (sh_3 ρ) ⟨_, _, clk11⟩ rfl (Nat.le_of_ble_eq_true rfl) ⟨(Nat.le_of_ble_eq_true rfl), (Nat.le_of_ble_eq_true rfl), fitC hk.1 (by decide), fitC hk.2 (by decide)⟩ dL_law_693 rfl ?_
  show WW _ _ _ 696 _ [.int r] (full d1 ρ) _ _ _
  refine WW.aload_n (pc := 696) (j := 2) rfl dL_law_696 ?_
  refine WW.aload_n (pc := 697) (j := 0) rfl dL_law_697 ?_
  refine WW.iload_n (pc := 698) (j := 3) rfl dL_law_698 ?_
  refine WW.iconst (pc := 699) 1 dL_law_699 rfl ?_
  refine WW.iadd (pc := 700) dL_law_700 ?_
  refine WW.ialdH (pc := 701) (hin 1 (by decide)) (by decide) (sh_2 ρ) dL_law_701 ?_
  show WW _ _ _ 702 _ [.int (d_i d1 2 (ix (i + 1))), .ref 23, .int r] (full d1 ρ) _ _ _
  refine WW.aload_n (pc := 702) (j := 0) rfl dL_law_702 ?_
  refine WW.iload_n (pc := 703) (j := 3) rfl dL_law_703 ?_
  refine WW.iconst (pc := 704) 2 dL_law_704 rfl ?_
  refine WW.iadd (pc := 705) dL_law_705 ?_
  refine WW.ialdH (pc := 706) (hin 2 (by decide)) (by decide) (sh_2 ρ) dL_law_706 ?_
  show WW _ _ _ 707 _ [.int (d_i d1 2 (ix (i + 2))), .int (d_i d1 2 (ix (i + 1))), .ref 23, .int r] (full d1 ρ) _ _ _
  refine WW.callVH (pc := 707) (As := [.int (d_i d1 2 (ix (i + 1))), .int (d_i d1 2 (ix (i + 2)))]) (st := [.int r]) e2 lk_L_82 (okX12_whom g ρ hρ d1 (d_i d1 2 (ix (i + 1))) (d_i d1 2 (ix (i + 2)))) h3_23 (sh_23 ρ) ⟨_, _, clk12⟩ rfl (Nat.le_of_ble_eq_true rfl) ⟨(Nat.le_of_ble_eq_true rfl), (Nat.le_of_ble_eq_true rfl), fitD hk.1 (by decide), fitD hk.2 (by decide)⟩ dL_law_707 rfl ?_
  show WW _ _ _ 710 _ [.int r, .int r] (full d2 ρ) _ _ _
  refine WW.icmpH (pc := 710) 1189 dL_law_710 (by decide) ?_
  exact WW.wide (kc' := kc + 1) (ks' := ks + 2) (fitD (Nat.le_refl _) (by decide)) (fitD (Nat.le_refl _) (by decide)) kk
set_option maxHeartbeats 4000000 in
set_option maxRecDepth 100000 in
theorem law_15 {g : Gx} {hf : HP} {ρ : Rh} (hρ : Hr ρ) {d d1 d2 : Dd} {i : Int32} {r : Int32} {kc ks : Nat} (hk : kc + 1 ≤ 600000 ∧ ks + 2 ≤ 7302250) (hin : ∀ j : Int32, j ∈ [1, 2, 3, 4, 5, 6] → inB (i + j) ρ.2.2 = true) (e1 : fX11_plainly ρ d (d_i d 2 (ix (i + 1))) = some (r, d1)) (e2 : fX12_plainly ρ d1 (d_i d1 2 (ix (i + 1))) = some (r, d2)) (kk : WW g M_L_law (eF hf) 1189 (LH i) [] (full d2 ρ) (kc + 1) (ks + 2) (some ())) : WW g M_L_law (eF hf) 715 (LH i) [] (full d ρ) kc ks (some ()) := by
  refine WW.aload_n (pc := 715) (j := 1) rfl dL_law_715 ?_
  refine WW.aload_n (pc := 716) (j := 0) rfl dL_law_716 ?_
  refine WW.iload_n (pc := 717) (j := 3) rfl dL_law_717 ?_
  refine WW.iconst (pc := 718) 1 dL_law_718 rfl ?_
  refine WW.iadd (pc := 719) dL_law_719 ?_
  refine WW.ialdH (pc := 720) (hin 1 (by decide)) (by decide) (sh_2 ρ) dL_law_720 ?_
  show WW _ _ _ 721 _ [.int (d_i d 2 (ix (i + 1))), .ref 3] (full d ρ) _ _ _
  refine WW.callVH (pc := 721) (As := [.int (d_i d 2 (ix (i + 1)))]) (st := []) e1 lk_L_83 (okX11_plainly g ρ hρ d (d_i d 2 (ix (i + 1)))) h3_3 (sh_3 ρ) ⟨_, _, clk11⟩ rfl (Nat.le_of_ble_eq_true rfl) ⟨(Nat.le_of_ble_eq_true rfl), (Nat.le_of_ble_eq_true rfl), fitC hk.1 (by decide), fitC hk.2 (by decide)⟩ dL_law_721 rfl ?_
  show WW _ _ _ 724 _ [.int r] (full d1 ρ) _ _ _
  refine WW.aload_n (pc := 724) (j := 2) rfl dL_law_724 ?_
  refine WW.aload_n (pc := 725) (j := 0) rfl dL_law_725 ?_
  refine WW.iload_n (pc := 726) (j := 3) rfl dL_law_726 ?_
  refine WW.iconst (pc := 727) 1 dL_law_727 rfl ?_
  refine WW.iadd (pc := 728) dL_law_728 ?_
  refine WW.ialdH (pc := 729) (hin 1 (by decide)) (by decide) (sh_2 ρ) dL_law_729 ?_
  show WW _ _ _ 730 _ [.int (d_i d1 2 (ix (i + 1))), .ref 23, .int r] (full d1 ρ) _ _ _
  refine WW.callVH (pc := 730) (As := [.int (d_i d1 2 (ix (i + 1)))]) (st := [.int r]) e2 lk_L_87 (okX12_plainly g ρ hρ d1 (d_i d1 2 (ix (i + 1)))) h3_23 (sh_23 ρ) ⟨_, _, clk12⟩ rfl (Nat.le_of_ble_eq_true rfl) ⟨(Nat.le_of_ble_eq_true rfl), (Nat.le_of_ble_eq_true rfl), fitD hk.1 (by decide), fitD hk.2 (by decide)⟩ dL_law_730 rfl ?_
  show WW _ _ _ 733 _ [.int r, .int r] (full d2 ρ) _ _ _
  refine WW.icmpH (pc := 733) 1189 dL_law_733 (by decide) ?_
  exact WW.wide (kc' := kc + 1) (ks' := ks + 2) (fitD (Nat.le_refl _) (by decide)) (fitD (Nat.le_refl _) (by decide)) kk
set_option maxHeartbeats 4000000 in
set_option maxRecDepth 100000 in
theorem law_16 {g : Gx} {hf : HP} {ρ : Rh} (hρ : Hr ρ) {d d1 d2 : Dd} {i : Int32} {r : Int32} {kc ks : Nat} (hk : kc + 1 ≤ 600000 ∧ ks + 2 ≤ 7302250) (hin : ∀ j : Int32, j ∈ [1, 2, 3, 4, 5, 6] → inB (i + j) ρ.2.2 = true) (e1 : fX11_more ρ d (d_i d 2 (ix (i + 1))) (d_i d 2 (ix (i + 2))) = some (r, d1)) (e2 : fX12_more ρ d1 (d_i d1 2 (ix (i + 1))) (d_i d1 2 (ix (i + 2))) = some (r, d2)) (kk : WW g M_L_law (eF hf) 1189 (LH i) [] (full d2 ρ) (kc + 1) (ks + 2) (some ())) : WW g M_L_law (eF hf) 738 (LH i) [] (full d ρ) kc ks (some ()) := by
  refine WW.aload_n (pc := 738) (j := 1) rfl dL_law_738 ?_
  refine WW.aload_n (pc := 739) (j := 0) rfl dL_law_739 ?_
  refine WW.iload_n (pc := 740) (j := 3) rfl dL_law_740 ?_
  refine WW.iconst (pc := 741) 1 dL_law_741 rfl ?_
  refine WW.iadd (pc := 742) dL_law_742 ?_
  refine WW.ialdH (pc := 743) (hin 1 (by decide)) (by decide) (sh_2 ρ) dL_law_743 ?_
  show WW _ _ _ 744 _ [.int (d_i d 2 (ix (i + 1))), .ref 3] (full d ρ) _ _ _
  refine WW.aload_n (pc := 744) (j := 0) rfl dL_law_744 ?_
  refine WW.iload_n (pc := 745) (j := 3) rfl dL_law_745 ?_
  refine WW.iconst (pc := 746) 2 dL_law_746 rfl ?_
  refine WW.iadd (pc := 747) dL_law_747 ?_
  refine WW.ialdH (pc := 748) (hin 2 (by decide)) (by decide) (sh_2 ρ) dL_law_748 ?_
  show WW _ _ _ 749 _ [.int (d_i d 2 (ix (i + 2))), .int (d_i d 2 (ix (i + 1))), .ref 3] (full d ρ) _ _ _
  refine WW.callVH (pc := 749) (As := [.int (d_i d 2 (ix (i + 1))), .int (d_i d 2 (ix (i + 2)))]) (st := []) e1 lk_L_88 (okX11_more g ρ hρ d (d_i d 2 (ix (i + 1))) (d_i d 2 (ix (i + 2)))) h3_3 (sh_3 ρ) ⟨_, _, clk11⟩ rfl (Nat.le_of_ble_eq_true rfl) ⟨(Nat.le_of_ble_eq_true rfl), (Nat.le_of_ble_eq_true rfl), fitC hk.1 (by decide), fitC hk.2 (by decide)⟩ dL_law_749 rfl ?_
  show WW _ _ _ 752 _ [.int r] (full d1 ρ) _ _ _
  refine WW.aload_n (pc := 752) (j := 2) rfl dL_law_752 ?_
  refine WW.aload_n (pc := 753) (j := 0) rfl dL_law_753 ?_
  refine WW.iload_n (pc := 754) (j := 3) rfl dL_law_754 ?_
  refine WW.iconst (pc := 755) 1 dL_law_755 rfl ?_
  refine WW.iadd (pc := 756) dL_law_756 ?_
  refine WW.ialdH (pc := 757) (hin 1 (by decide)) (by decide) (sh_2 ρ) dL_law_757 ?_
  show WW _ _ _ 758 _ [.int (d_i d1 2 (ix (i + 1))), .ref 23, .int r] (full d1 ρ) _ _ _
  refine WW.aload_n (pc := 758) (j := 0) rfl dL_law_758 ?_
  refine WW.iload_n (pc := 759) (j := 3) rfl dL_law_759 ?_
  refine WW.iconst (pc := 760) 2 dL_law_760 rfl ?_
  refine WW.iadd (pc := 761) dL_law_761 ?_
  refine WW.ialdH (pc := 762) (hin 2 (by decide)) (by decide) (sh_2 ρ) dL_law_762 ?_
  show WW _ _ _ 763 _ [.int (d_i d1 2 (ix (i + 2))), .int (d_i d1 2 (ix (i + 1))), .ref 23, .int r] (full d1 ρ) _ _ _
  refine WW.callVH (pc := 763) (As := [.int (d_i d1 2 (ix (i + 1))), .int (d_i d1 2 (ix (i + 2)))]) (st := [.int r]) e2 lk_L_91 (okX12_more g ρ hρ d1 (d_i d1 2 (ix (i + 1))) (d_i d1 2 (ix (i + 2)))) h3_23 (sh_23 ρ) ⟨_, _, clk12⟩ rfl (Nat.le_of_ble_eq_true rfl) ⟨(Nat.le_of_ble_eq_true rfl), (Nat.le_of_ble_eq_true rfl), fitD hk.1 (by decide), fitD hk.2 (by decide)⟩ dL_law_763 rfl ?_
  show WW _ _ _ 766 _ [.int r, .int r] (full d2 ρ) _ _ _
  refine WW.icmpH (pc := 766) 1189 dL_law_766 (by decide) ?_
  exact WW.wide (kc' := kc + 1) (ks' := ks + 2) (fitD (Nat.le_refl _) (by decide)) (fitD (Nat.le_refl _) (by decide)) kk
set_option maxHeartbeats 4000000 in
set_option maxRecDepth 100000 in
theorem law_17 {g : Gx} {hf : HP} {ρ : Rh} (hρ : Hr ρ) {d d1 d2 : Dd} {i : Int32} {r : Int64} {kc ks : Nat} (hk : kc + 1 ≤ 600000 ∧ ks + 2 ≤ 7302250) (hin : ∀ j : Int32, j ∈ [1, 2, 3, 4, 5, 6] → inB (i + j) ρ.2.2 = true) (e1 : fX11_pledge ρ d (d_i d 2 (ix (i + 1))) (d_i d 2 (ix (i + 2))) (d_i d 2 (ix (i + 3))) = some (r, d1)) (e2 : fX12_pledge ρ d1 (d_i d1 2 (ix (i + 1))) (d_i d1 2 (ix (i + 2))) (d_i d1 2 (ix (i + 3))) = some (r, d2)) (kk : WW g M_L_law (eF hf) 1189 (LH i) [] (full d2 ρ) (kc + 1) (ks + 2) (some ())) : WW g M_L_law (eF hf) 771 (LH i) [] (full d ρ) kc ks (some ()) := by
  refine WW.aload_n (pc := 771) (j := 1) rfl dL_law_771 ?_
  refine WW.aload_n (pc := 772) (j := 0) rfl dL_law_772 ?_
  refine WW.iload_n (pc := 773) (j := 3) rfl dL_law_773 ?_
  refine WW.iconst (pc := 774) 1 dL_law_774 rfl ?_
  refine WW.iadd (pc := 775) dL_law_775 ?_
  refine WW.ialdH (pc := 776) (hin 1 (by decide)) (by decide) (sh_2 ρ) dL_law_776 ?_
  show WW _ _ _ 777 _ [.int (d_i d 2 (ix (i + 1))), .ref 3] (full d ρ) _ _ _
  refine WW.aload_n (pc := 777) (j := 0) rfl dL_law_777 ?_
  refine WW.iload_n (pc := 778) (j := 3) rfl dL_law_778 ?_
  refine WW.iconst (pc := 779) 2 dL_law_779 rfl ?_
  refine WW.iadd (pc := 780) dL_law_780 ?_
  refine WW.ialdH (pc := 781) (hin 2 (by decide)) (by decide) (sh_2 ρ) dL_law_781 ?_
  show WW _ _ _ 782 _ [.int (d_i d 2 (ix (i + 2))), .int (d_i d 2 (ix (i + 1))), .ref 3] (full d ρ) _ _ _
  refine WW.aload_n (pc := 782) (j := 0) rfl dL_law_782 ?_
  refine WW.iload_n (pc := 783) (j := 3) rfl dL_law_783 ?_
  refine WW.iconst (pc := 784) 3 dL_law_784 rfl ?_
  refine WW.iadd (pc := 785) dL_law_785 ?_
  refine WW.ialdH (pc := 786) (hin 3 (by decide)) (by decide) (sh_2 ρ) dL_law_786 ?_
  show WW _ _ _ 787 _ [.int (d_i d 2 (ix (i + 3))), .int (d_i d 2 (ix (i + 2))), .int (d_i d 2 (ix (i + 1))), .ref 3] (full d ρ) _ _ _
  refine WW.callVH (pc := 787) (As := [.int (d_i d 2 (ix (i + 1))), .int (d_i d 2 (ix (i + 2))), .int (d_i d 2 (ix (i + 3)))]) (st := []) e1 lk_L_92 (okX11_pledge g ρ hρ d (d_i d 2 (ix (i + 1))) (d_i d 2 (ix (i + 2))) (d_i d 2 (ix (i + 3)))) h3_3 (sh_3 ρ) ⟨_, _, clk11⟩ rfl (Nat.le_of_ble_eq_true rfl) ⟨(Nat.le_of_ble_eq_true rfl), (Nat.le_of_ble_eq_true rfl), fitC hk.1 (by decide), fitC hk.2 (by decide)⟩ dL_law_787 rfl ?_
  show WW _ _ _ 790 _ [.long r] (full d1 ρ) _ _ _
  refine WW.aload_n (pc := 790) (j := 2) rfl dL_law_790 ?_
  refine WW.aload_n (pc := 791) (j := 0) rfl dL_law_791 ?_
  refine WW.iload_n (pc := 792) (j := 3) rfl dL_law_792 ?_
  refine WW.iconst (pc := 793) 1 dL_law_793 rfl ?_
  refine WW.iadd (pc := 794) dL_law_794 ?_
  refine WW.ialdH (pc := 795) (hin 1 (by decide)) (by decide) (sh_2 ρ) dL_law_795 ?_
  show WW _ _ _ 796 _ [.int (d_i d1 2 (ix (i + 1))), .ref 23, .long r] (full d1 ρ) _ _ _
  refine WW.aload_n (pc := 796) (j := 0) rfl dL_law_796 ?_
  refine WW.iload_n (pc := 797) (j := 3) rfl dL_law_797 ?_
  refine WW.iconst (pc := 798) 2 dL_law_798 rfl ?_
  refine WW.iadd (pc := 799) dL_law_799 ?_
  refine WW.ialdH (pc := 800) (hin 2 (by decide)) (by decide) (sh_2 ρ) dL_law_800 ?_
  show WW _ _ _ 801 _ [.int (d_i d1 2 (ix (i + 2))), .int (d_i d1 2 (ix (i + 1))), .ref 23, .long r] (full d1 ρ) _ _ _
  refine WW.aload_n (pc := 801) (j := 0) rfl dL_law_801 ?_
  refine WW.iload_n (pc := 802) (j := 3) rfl dL_law_802 ?_
  refine WW.iconst (pc := 803) 3 dL_law_803 rfl ?_
  refine WW.iadd (pc := 804) dL_law_804 ?_
  refine WW.ialdH (pc := 805) (hin 3 (by decide)) (by decide) (sh_2 ρ) dL_law_805 ?_
  show WW _ _ _ 806 _ [.int (d_i d1 2 (ix (i + 3))), .int (d_i d1 2 (ix (i + 2))), .int (d_i d1 2 (ix (i + 1))), .ref 23, .long r] (full d1 ρ) _ _ _
  refine WW.callVH (pc := 806) (As := [.int (d_i d1 2 (ix (i + 1))), .int (d_i d1 2 (ix (i + 2))), .int (d_i d1 2 (ix (i + 3)))]) (st := [.long r]) e2 lk_L_95 (okX12_pledge g ρ hρ d1 (d_i d1 2 (ix (i + 1))) (d_i d1 2 (ix (i + 2))) (d_i d1 2 (ix (i + 3)))) h3_23 (sh_23 ρ) ⟨_, _, clk12⟩ rfl (Nat.le_of_ble_eq_true rfl) ⟨(Nat.le_of_ble_eq_true rfl), (Nat.le_of_ble_eq_true rfl), fitD hk.1 (by decide), fitD hk.2 (by decide)⟩ dL_law_806 rfl ?_
  show WW _ _ _ 809 _ [.long r, .long r] (full d2 ρ) _ _ _
  refine WW.lcmpH (pc := 809) 1189 dL_law_809 dL_law_810 (by decide) ?_
  exact WW.wide (kc' := kc + 1) (ks' := ks + 2) (fitD (Nat.le_refl _) (by decide)) (fitD (Nat.le_refl _) (by decide)) kk
set_option maxHeartbeats 4000000 in
set_option maxRecDepth 100000 in
theorem law_18 {g : Gx} {hf : HP} {ρ : Rh} (hρ : Hr ρ) {d d1 d2 : Dd} {i : Int32} {r : Int32} {kc ks : Nat} (hk : kc + 1 ≤ 600000 ∧ ks + 2 ≤ 7302250) (hin : ∀ j : Int32, j ∈ [1, 2, 3, 4, 5, 6] → inB (i + j) ρ.2.2 = true) (e1 : fX11_on ρ d (d_i d 2 (ix (i + 1))) (d_i d 2 (ix (i + 2))) (d_i d 2 (ix (i + 3))) = some (r, d1)) (e2 : fX12_on ρ d1 (d_i d1 2 (ix (i + 1))) (d_i d1 2 (ix (i + 2))) (d_i d1 2 (ix (i + 3))) = some (r, d2)) (kk : WW g M_L_law (eF hf) 1189 (LH i) [] (full d2 ρ) (kc + 1) (ks + 2) (some ())) : WW g M_L_law (eF hf) 815 (LH i) [] (full d ρ) kc ks (some ()) := by
  refine WW.aload_n (pc := 815) (j := 1) rfl dL_law_815 ?_
  refine WW.aload_n (pc := 816) (j := 0) rfl dL_law_816 ?_
  refine WW.iload_n (pc := 817) (j := 3) rfl dL_law_817 ?_
  refine WW.iconst (pc := 818) 1 dL_law_818 rfl ?_
  refine WW.iadd (pc := 819) dL_law_819 ?_
  refine WW.ialdH (pc := 820) (hin 1 (by decide)) (by decide) (sh_2 ρ) dL_law_820 ?_
  show WW _ _ _ 821 _ [.int (d_i d 2 (ix (i + 1))), .ref 3] (full d ρ) _ _ _
  refine WW.aload_n (pc := 821) (j := 0) rfl dL_law_821 ?_
  refine WW.iload_n (pc := 822) (j := 3) rfl dL_law_822 ?_
  refine WW.iconst (pc := 823) 2 dL_law_823 rfl ?_
  refine WW.iadd (pc := 824) dL_law_824 ?_
  refine WW.ialdH (pc := 825) (hin 2 (by decide)) (by decide) (sh_2 ρ) dL_law_825 ?_
  show WW _ _ _ 826 _ [.int (d_i d 2 (ix (i + 2))), .int (d_i d 2 (ix (i + 1))), .ref 3] (full d ρ) _ _ _
  refine WW.aload_n (pc := 826) (j := 0) rfl dL_law_826 ?_
  refine WW.iload_n (pc := 827) (j := 3) rfl dL_law_827 ?_
  refine WW.iconst (pc := 828) 3 dL_law_828 rfl ?_
  refine WW.iadd (pc := 829) dL_law_829 ?_
  refine WW.ialdH (pc := 830) (hin 3 (by decide)) (by decide) (sh_2 ρ) dL_law_830 ?_
  show WW _ _ _ 831 _ [.int (d_i d 2 (ix (i + 3))), .int (d_i d 2 (ix (i + 2))), .int (d_i d 2 (ix (i + 1))), .ref 3] (full d ρ) _ _ _
  refine WW.callVH (pc := 831) (As := [.int (d_i d 2 (ix (i + 1))), .int (d_i d 2 (ix (i + 2))), .int (d_i d 2 (ix (i + 3)))]) (st := []) e1 lk_L_96 (okX11_on g ρ hρ d (d_i d 2 (ix (i + 1))) (d_i d 2 (ix (i + 2))) (d_i d 2 (ix (i + 3)))) h3_3 (sh_3 ρ) ⟨_, _, clk11⟩ rfl (Nat.le_of_ble_eq_true rfl) ⟨(Nat.le_of_ble_eq_true rfl), (Nat.le_of_ble_eq_true rfl), fitC hk.1 (by decide), fitC hk.2 (by decide)⟩ dL_law_831 rfl ?_
  show WW _ _ _ 834 _ [.int r] (full d1 ρ) _ _ _
  refine WW.aload_n (pc := 834) (j := 2) rfl dL_law_834 ?_
  refine WW.aload_n (pc := 835) (j := 0) rfl dL_law_835 ?_
  refine WW.iload_n (pc := 836) (j := 3) rfl dL_law_836 ?_
  refine WW.iconst (pc := 837) 1 dL_law_837 rfl ?_
  refine WW.iadd (pc := 838) dL_law_838 ?_
  refine WW.ialdH (pc := 839) (hin 1 (by decide)) (by decide) (sh_2 ρ) dL_law_839 ?_
  show WW _ _ _ 840 _ [.int (d_i d1 2 (ix (i + 1))), .ref 23, .int r] (full d1 ρ) _ _ _
  refine WW.aload_n (pc := 840) (j := 0) rfl dL_law_840 ?_
  refine WW.iload_n (pc := 841) (j := 3) rfl dL_law_841 ?_
  refine WW.iconst (pc := 842) 2 dL_law_842 rfl ?_
  refine WW.iadd (pc := 843) dL_law_843 ?_
  refine WW.ialdH (pc := 844) (hin 2 (by decide)) (by decide) (sh_2 ρ) dL_law_844 ?_
  show WW _ _ _ 845 _ [.int (d_i d1 2 (ix (i + 2))), .int (d_i d1 2 (ix (i + 1))), .ref 23, .int r] (full d1 ρ) _ _ _
  refine WW.aload_n (pc := 845) (j := 0) rfl dL_law_845 ?_
  refine WW.iload_n (pc := 846) (j := 3) rfl dL_law_846 ?_
  refine WW.iconst (pc := 847) 3 dL_law_847 rfl ?_
  refine WW.iadd (pc := 848) dL_law_848 ?_
  refine WW.ialdH (pc := 849) (hin 3 (by decide)) (by decide) (sh_2 ρ) dL_law_849 ?_
  show WW _ _ _ 850 _ [.int (d_i d1 2 (ix (i + 3))), .int (d_i d1 2 (ix (i + 2))), .int (d_i d1 2 (ix (i + 1))), .ref 23, .int r] (full d1 ρ) _ _ _
  refine WW.callVH (pc := 850) (As := [.int (d_i d1 2 (ix (i + 1))), .int (d_i d1 2 (ix (i + 2))), .int (d_i d1 2 (ix (i + 3)))]) (st := [.int r]) e2 lk_L_99 (okX12_on g ρ hρ d1 (d_i d1 2 (ix (i + 1))) (d_i d1 2 (ix (i + 2))) (d_i d1 2 (ix (i + 3)))) h3_23 (sh_23 ρ) ⟨_, _, clk12⟩ rfl (Nat.le_of_ble_eq_true rfl) ⟨(Nat.le_of_ble_eq_true rfl), (Nat.le_of_ble_eq_true rfl), fitD hk.1 (by decide), fitD hk.2 (by decide)⟩ dL_law_850 rfl ?_
  show WW _ _ _ 853 _ [.int r, .int r] (full d2 ρ) _ _ _
  refine WW.icmpH (pc := 853) 1189 dL_law_853 (by decide) ?_
  exact WW.wide (kc' := kc + 1) (ks' := ks + 2) (fitD (Nat.le_refl _) (by decide)) (fitD (Nat.le_refl _) (by decide)) kk
set_option maxHeartbeats 4000000 in
set_option maxRecDepth 100000 in
theorem law_19 {g : Gx} {hf : HP} {ρ : Rh} (hρ : Hr ρ) {d d1 d2 : Dd} {i : Int32} {r : Int64} {kc ks : Nat} (hk : kc + 1 ≤ 600000 ∧ ks + 2 ≤ 7302250) (hin : ∀ j : Int32, j ∈ [1, 2, 3, 4, 5, 6] → inB (i + j) ρ.2.2 = true) (e1 : fX11_shut ρ d (d_i d 2 (ix (i + 1))) (d_i d 2 (ix (i + 2))) (d_i d 2 (ix (i + 3))) = some (r, d1)) (e2 : fX12_shut ρ d1 (d_i d1 2 (ix (i + 1))) (d_i d1 2 (ix (i + 2))) (d_i d1 2 (ix (i + 3))) = some (r, d2)) (kk : WW g M_L_law (eF hf) 1189 (LH i) [] (full d2 ρ) (kc + 1) (ks + 2) (some ())) : WW g M_L_law (eF hf) 858 (LH i) [] (full d ρ) kc ks (some ()) := by
  refine WW.aload_n (pc := 858) (j := 1) rfl dL_law_858 ?_
  refine WW.aload_n (pc := 859) (j := 0) rfl dL_law_859 ?_
  refine WW.iload_n (pc := 860) (j := 3) rfl dL_law_860 ?_
  refine WW.iconst (pc := 861) 1 dL_law_861 rfl ?_
  refine WW.iadd (pc := 862) dL_law_862 ?_
  refine WW.ialdH (pc := 863) (hin 1 (by decide)) (by decide) (sh_2 ρ) dL_law_863 ?_
  show WW _ _ _ 864 _ [.int (d_i d 2 (ix (i + 1))), .ref 3] (full d ρ) _ _ _
  refine WW.aload_n (pc := 864) (j := 0) rfl dL_law_864 ?_
  refine WW.iload_n (pc := 865) (j := 3) rfl dL_law_865 ?_
  refine WW.iconst (pc := 866) 2 dL_law_866 rfl ?_
  refine WW.iadd (pc := 867) dL_law_867 ?_
  refine WW.ialdH (pc := 868) (hin 2 (by decide)) (by decide) (sh_2 ρ) dL_law_868 ?_
  show WW _ _ _ 869 _ [.int (d_i d 2 (ix (i + 2))), .int (d_i d 2 (ix (i + 1))), .ref 3] (full d ρ) _ _ _
  refine WW.aload_n (pc := 869) (j := 0) rfl dL_law_869 ?_
  refine WW.iload_n (pc := 870) (j := 3) rfl dL_law_870 ?_
  refine WW.iconst (pc := 871) 3 dL_law_871 rfl ?_
  refine WW.iadd (pc := 872) dL_law_872 ?_
  refine WW.ialdH (pc := 873) (hin 3 (by decide)) (by decide) (sh_2 ρ) dL_law_873 ?_
  show WW _ _ _ 874 _ [.int (d_i d 2 (ix (i + 3))), .int (d_i d 2 (ix (i + 2))), .int (d_i d 2 (ix (i + 1))), .ref 3] (full d ρ) _ _ _
  refine WW.callVH (pc := 874) (As := [.int (d_i d 2 (ix (i + 1))), .int (d_i d 2 (ix (i + 2))), .int (d_i d 2 (ix (i + 3)))]) (st := []) e1 lk_L_100 (okX11_shut g ρ hρ d (d_i d 2 (ix (i + 1))) (d_i d 2 (ix (i + 2))) (d_i d 2 (ix (i + 3)))) h3_3 (sh_3 ρ) ⟨_, _, clk11⟩ rfl (Nat.le_of_ble_eq_true rfl) ⟨(Nat.le_of_ble_eq_true rfl), (Nat.le_of_ble_eq_true rfl), fitC hk.1 (by decide), fitC hk.2 (by decide)⟩ dL_law_874 rfl ?_
  show WW _ _ _ 877 _ [.long r] (full d1 ρ) _ _ _
  refine WW.aload_n (pc := 877) (j := 2) rfl dL_law_877 ?_
  refine WW.aload_n (pc := 878) (j := 0) rfl dL_law_878 ?_
  refine WW.iload_n (pc := 879) (j := 3) rfl dL_law_879 ?_
  refine WW.iconst (pc := 880) 1 dL_law_880 rfl ?_
  refine WW.iadd (pc := 881) dL_law_881 ?_
  refine WW.ialdH (pc := 882) (hin 1 (by decide)) (by decide) (sh_2 ρ) dL_law_882 ?_
  show WW _ _ _ 883 _ [.int (d_i d1 2 (ix (i + 1))), .ref 23, .long r] (full d1 ρ) _ _ _
  refine WW.aload_n (pc := 883) (j := 0) rfl dL_law_883 ?_
  refine WW.iload_n (pc := 884) (j := 3) rfl dL_law_884 ?_
  refine WW.iconst (pc := 885) 2 dL_law_885 rfl ?_
  refine WW.iadd (pc := 886) dL_law_886 ?_
  refine WW.ialdH (pc := 887) (hin 2 (by decide)) (by decide) (sh_2 ρ) dL_law_887 ?_
  show WW _ _ _ 888 _ [.int (d_i d1 2 (ix (i + 2))), .int (d_i d1 2 (ix (i + 1))), .ref 23, .long r] (full d1 ρ) _ _ _
  refine WW.aload_n (pc := 888) (j := 0) rfl dL_law_888 ?_
  refine WW.iload_n (pc := 889) (j := 3) rfl dL_law_889 ?_
  refine WW.iconst (pc := 890) 3 dL_law_890 rfl ?_
  refine WW.iadd (pc := 891) dL_law_891 ?_
  refine WW.ialdH (pc := 892) (hin 3 (by decide)) (by decide) (sh_2 ρ) dL_law_892 ?_
  show WW _ _ _ 893 _ [.int (d_i d1 2 (ix (i + 3))), .int (d_i d1 2 (ix (i + 2))), .int (d_i d1 2 (ix (i + 1))), .ref 23, .long r] (full d1 ρ) _ _ _
  refine WW.callVH (pc := 893) (As := [.int (d_i d1 2 (ix (i + 1))), .int (d_i d1 2 (ix (i + 2))), .int (d_i d1 2 (ix (i + 3)))]) (st := [.long r]) e2 lk_L_103 (okX12_shut g ρ hρ d1 (d_i d1 2 (ix (i + 1))) (d_i d1 2 (ix (i + 2))) (d_i d1 2 (ix (i + 3)))) h3_23 (sh_23 ρ) ⟨_, _, clk12⟩ rfl (Nat.le_of_ble_eq_true rfl) ⟨(Nat.le_of_ble_eq_true rfl), (Nat.le_of_ble_eq_true rfl), fitD hk.1 (by decide), fitD hk.2 (by decide)⟩ dL_law_893 rfl ?_
  show WW _ _ _ 896 _ [.long r, .long r] (full d2 ρ) _ _ _
  refine WW.lcmpH (pc := 896) 1189 dL_law_896 dL_law_897 (by decide) ?_
  exact WW.wide (kc' := kc + 1) (ks' := ks + 2) (fitD (Nat.le_refl _) (by decide)) (fitD (Nat.le_refl _) (by decide)) kk
set_option maxHeartbeats 4000000 in
set_option maxRecDepth 100000 in
theorem law_20 {g : Gx} {hf : HP} {ρ : Rh} (hρ : Hr ρ) {d d1 d2 : Dd} {i : Int32} {r : Int64} {kc ks : Nat} (hk : kc + 1 ≤ 600000 ∧ ks + 2 ≤ 7302250) (hin : ∀ j : Int32, j ∈ [1, 2, 3, 4, 5, 6] → inB (i + j) ρ.2.2 = true) (e1 : fX11_wrongly ρ d (d_i d 2 (ix (i + 1))) (d_i d 2 (ix (i + 2))) (d_i d 2 (ix (i + 3))) (d_i d 2 (ix (i + 4))) (d_i d 2 (ix (i + 5))) (d_i d 2 (ix (i + 6))) = some (r, d1)) (e2 : fX12_wrongly ρ d1 (d_i d1 2 (ix (i + 1))) (d_i d1 2 (ix (i + 2))) (d_i d1 2 (ix (i + 3))) (d_i d1 2 (ix (i + 4))) (d_i d1 2 (ix (i + 5))) (d_i d1 2 (ix (i + 6))) = some (r, d2)) (kk : WW g M_L_law (eF hf) 1189 (LH i) [] (full d2 ρ) (kc + 1) (ks + 2) (some ())) : WW g M_L_law (eF hf) 902 (LH i) [] (full d ρ) kc ks (some ()) := by
  refine WW.aload_n (pc := 902) (j := 1) rfl dL_law_902 ?_
  refine WW.aload_n (pc := 903) (j := 0) rfl dL_law_903 ?_
  refine WW.iload_n (pc := 904) (j := 3) rfl dL_law_904 ?_
  refine WW.iconst (pc := 905) 1 dL_law_905 rfl ?_
  refine WW.iadd (pc := 906) dL_law_906 ?_
  refine WW.ialdH (pc := 907) (hin 1 (by decide)) (by decide) (sh_2 ρ) dL_law_907 ?_
  show WW _ _ _ 908 _ [.int (d_i d 2 (ix (i + 1))), .ref 3] (full d ρ) _ _ _
  refine WW.aload_n (pc := 908) (j := 0) rfl dL_law_908 ?_
  refine WW.iload_n (pc := 909) (j := 3) rfl dL_law_909 ?_
  refine WW.iconst (pc := 910) 2 dL_law_910 rfl ?_
  refine WW.iadd (pc := 911) dL_law_911 ?_
  refine WW.ialdH (pc := 912) (hin 2 (by decide)) (by decide) (sh_2 ρ) dL_law_912 ?_
  show WW _ _ _ 913 _ [.int (d_i d 2 (ix (i + 2))), .int (d_i d 2 (ix (i + 1))), .ref 3] (full d ρ) _ _ _
  refine WW.aload_n (pc := 913) (j := 0) rfl dL_law_913 ?_
  refine WW.iload_n (pc := 914) (j := 3) rfl dL_law_914 ?_
  refine WW.iconst (pc := 915) 3 dL_law_915 rfl ?_
  refine WW.iadd (pc := 916) dL_law_916 ?_
  refine WW.ialdH (pc := 917) (hin 3 (by decide)) (by decide) (sh_2 ρ) dL_law_917 ?_
  show WW _ _ _ 918 _ [.int (d_i d 2 (ix (i + 3))), .int (d_i d 2 (ix (i + 2))), .int (d_i d 2 (ix (i + 1))), .ref 3] (full d ρ) _ _ _
  refine WW.aload_n (pc := 918) (j := 0) rfl dL_law_918 ?_
  refine WW.iload_n (pc := 919) (j := 3) rfl dL_law_919 ?_
  refine WW.iconst (pc := 920) 4 dL_law_920 rfl ?_
  refine WW.iadd (pc := 921) dL_law_921 ?_
  refine WW.ialdH (pc := 922) (hin 4 (by decide)) (by decide) (sh_2 ρ) dL_law_922 ?_
  show WW _ _ _ 923 _ [.int (d_i d 2 (ix (i + 4))), .int (d_i d 2 (ix (i + 3))), .int (d_i d 2 (ix (i + 2))), .int (d_i d 2 (ix (i + 1))), .ref 3] (full d ρ) _ _ _
  refine WW.aload_n (pc := 923) (j := 0) rfl dL_law_923 ?_
  refine WW.iload_n (pc := 924) (j := 3) rfl dL_law_924 ?_
  refine WW.iconst (pc := 925) 5 dL_law_925 rfl ?_
  refine WW.iadd (pc := 926) dL_law_926 ?_
  refine WW.ialdH (pc := 927) (hin 5 (by decide)) (by decide) (sh_2 ρ) dL_law_927 ?_
  show WW _ _ _ 928 _ [.int (d_i d 2 (ix (i + 5))), .int (d_i d 2 (ix (i + 4))), .int (d_i d 2 (ix (i + 3))), .int (d_i d 2 (ix (i + 2))), .int (d_i d 2 (ix (i + 1))), .ref 3] (full d ρ) _ _ _
  refine WW.aload_n (pc := 928) (j := 0) rfl dL_law_928 ?_
  refine WW.iload_n (pc := 929) (j := 3) rfl dL_law_929 ?_
  refine WW.bipush (pc := 930) 6 dL_law_930 rfl ?_
  refine WW.iadd (pc := 932) dL_law_932 ?_
  refine WW.ialdH (pc := 933) (hin 6 (by decide)) (by decide) (sh_2 ρ) dL_law_933 ?_
  show WW _ _ _ 934 _ [.int (d_i d 2 (ix (i + 6))), .int (d_i d 2 (ix (i + 5))), .int (d_i d 2 (ix (i + 4))), .int (d_i d 2 (ix (i + 3))), .int (d_i d 2 (ix (i + 2))), .int (d_i d 2 (ix (i + 1))), .ref 3] (full d ρ) _ _ _
  refine WW.callVH (pc := 934) (As := [.int (d_i d 2 (ix (i + 1))), .int (d_i d 2 (ix (i + 2))), .int (d_i d 2 (ix (i + 3))), .int (d_i d 2 (ix (i + 4))), .int (d_i d 2 (ix (i + 5))), .int (d_i d 2 (ix (i + 6)))]) (st := []) e1 lk_L_104 (okX11_wrongly g ρ hρ d (d_i d 2 (ix (i + 1))) (d_i d 2 (ix (i + 2))) (d_i d 2 (ix (i + 3))) (d_i d 2 (ix (i + 4))) (d_i d 2 (ix (i + 5))) (d_i d 2 (ix (i + 6)))) h3_3 (sh_3 ρ) ⟨_, _, clk11⟩ rfl (Nat.le_of_ble_eq_true rfl) ⟨(Nat.le_of_ble_eq_true rfl), (Nat.le_of_ble_eq_true rfl), fitC hk.1 (by decide), fitC hk.2 (by decide)⟩ dL_law_934 rfl ?_
  show WW _ _ _ 937 _ [.long r] (full d1 ρ) _ _ _
  refine WW.aload_n (pc := 937) (j := 2) rfl dL_law_937 ?_
  refine WW.aload_n (pc := 938) (j := 0) rfl dL_law_938 ?_
  refine WW.iload_n (pc := 939) (j := 3) rfl dL_law_939 ?_
  refine WW.iconst (pc := 940) 1 dL_law_940 rfl ?_
  refine WW.iadd (pc := 941) dL_law_941 ?_
  refine WW.ialdH (pc := 942) (hin 1 (by decide)) (by decide) (sh_2 ρ) dL_law_942 ?_
  show WW _ _ _ 943 _ [.int (d_i d1 2 (ix (i + 1))), .ref 23, .long r] (full d1 ρ) _ _ _
  refine WW.aload_n (pc := 943) (j := 0) rfl dL_law_943 ?_
  refine WW.iload_n (pc := 944) (j := 3) rfl dL_law_944 ?_
  refine WW.iconst (pc := 945) 2 dL_law_945 rfl ?_
  refine WW.iadd (pc := 946) dL_law_946 ?_
  refine WW.ialdH (pc := 947) (hin 2 (by decide)) (by decide) (sh_2 ρ) dL_law_947 ?_
  show WW _ _ _ 948 _ [.int (d_i d1 2 (ix (i + 2))), .int (d_i d1 2 (ix (i + 1))), .ref 23, .long r] (full d1 ρ) _ _ _
  refine WW.aload_n (pc := 948) (j := 0) rfl dL_law_948 ?_
  refine WW.iload_n (pc := 949) (j := 3) rfl dL_law_949 ?_
  refine WW.iconst (pc := 950) 3 dL_law_950 rfl ?_
  refine WW.iadd (pc := 951) dL_law_951 ?_
  refine WW.ialdH (pc := 952) (hin 3 (by decide)) (by decide) (sh_2 ρ) dL_law_952 ?_
  show WW _ _ _ 953 _ [.int (d_i d1 2 (ix (i + 3))), .int (d_i d1 2 (ix (i + 2))), .int (d_i d1 2 (ix (i + 1))), .ref 23, .long r] (full d1 ρ) _ _ _
  refine WW.aload_n (pc := 953) (j := 0) rfl dL_law_953 ?_
  refine WW.iload_n (pc := 954) (j := 3) rfl dL_law_954 ?_
  refine WW.iconst (pc := 955) 4 dL_law_955 rfl ?_
  refine WW.iadd (pc := 956) dL_law_956 ?_
  refine WW.ialdH (pc := 957) (hin 4 (by decide)) (by decide) (sh_2 ρ) dL_law_957 ?_
  show WW _ _ _ 958 _ [.int (d_i d1 2 (ix (i + 4))), .int (d_i d1 2 (ix (i + 3))), .int (d_i d1 2 (ix (i + 2))), .int (d_i d1 2 (ix (i + 1))), .ref 23, .long r] (full d1 ρ) _ _ _
  refine WW.aload_n (pc := 958) (j := 0) rfl dL_law_958 ?_
  refine WW.iload_n (pc := 959) (j := 3) rfl dL_law_959 ?_
  refine WW.iconst (pc := 960) 5 dL_law_960 rfl ?_
  refine WW.iadd (pc := 961) dL_law_961 ?_
  refine WW.ialdH (pc := 962) (hin 5 (by decide)) (by decide) (sh_2 ρ) dL_law_962 ?_
  show WW _ _ _ 963 _ [.int (d_i d1 2 (ix (i + 5))), .int (d_i d1 2 (ix (i + 4))), .int (d_i d1 2 (ix (i + 3))), .int (d_i d1 2 (ix (i + 2))), .int (d_i d1 2 (ix (i + 1))), .ref 23, .long r] (full d1 ρ) _ _ _
  refine WW.aload_n (pc := 963) (j := 0) rfl dL_law_963 ?_
  refine WW.iload_n (pc := 964) (j := 3) rfl dL_law_964 ?_
  refine WW.bipush (pc := 965) 6 dL_law_965 rfl ?_
  refine WW.iadd (pc := 967) dL_law_967 ?_
  refine WW.ialdH (pc := 968) (hin 6 (by decide)) (by decide) (sh_2 ρ) dL_law_968 ?_
  show WW _ _ _ 969 _ [.int (d_i d1 2 (ix (i + 6))), .int (d_i d1 2 (ix (i + 5))), .int (d_i d1 2 (ix (i + 4))), .int (d_i d1 2 (ix (i + 3))), .int (d_i d1 2 (ix (i + 2))), .int (d_i d1 2 (ix (i + 1))), .ref 23, .long r] (full d1 ρ) _ _ _
  refine WW.callVH (pc := 969) (As := [.int (d_i d1 2 (ix (i + 1))), .int (d_i d1 2 (ix (i + 2))), .int (d_i d1 2 (ix (i + 3))), .int (d_i d1 2 (ix (i + 4))), .int (d_i d1 2 (ix (i + 5))), .int (d_i d1 2 (ix (i + 6)))]) (st := [.long r]) e2 lk_L_108 (okX12_wrongly g ρ hρ d1 (d_i d1 2 (ix (i + 1))) (d_i d1 2 (ix (i + 2))) (d_i d1 2 (ix (i + 3))) (d_i d1 2 (ix (i + 4))) (d_i d1 2 (ix (i + 5))) (d_i d1 2 (ix (i + 6)))) h3_23 (sh_23 ρ) ⟨_, _, clk12⟩ rfl (Nat.le_of_ble_eq_true rfl) ⟨(Nat.le_of_ble_eq_true rfl), (Nat.le_of_ble_eq_true rfl), fitD hk.1 (by decide), fitD hk.2 (by decide)⟩ dL_law_969 rfl ?_
  show WW _ _ _ 972 _ [.long r, .long r] (full d2 ρ) _ _ _
  refine WW.lcmpH (pc := 972) 1189 dL_law_972 dL_law_973 (by decide) ?_
  exact WW.wide (kc' := kc + 1) (ks' := ks + 2) (fitD (Nat.le_refl _) (by decide)) (fitD (Nat.le_refl _) (by decide)) kk
set_option maxHeartbeats 4000000 in
set_option maxRecDepth 100000 in
theorem law_21 {g : Gx} {hf : HP} {ρ : Rh} (hρ : Hr ρ) {d d1 d2 : Dd} {i : Int32} {r : Int32} {kc ks : Nat} (hk : kc + 1 ≤ 600000 ∧ ks + 2 ≤ 7302250) (hin : ∀ j : Int32, j ∈ [1, 2, 3, 4, 5, 6] → inB (i + j) ρ.2.2 = true) (e1 : fX11_shown ρ d (d_i d 2 (ix (i + 1))) (d_i d 2 (ix (i + 2))) = some (r, d1)) (e2 : fX12_shown ρ d1 (d_i d1 2 (ix (i + 1))) (d_i d1 2 (ix (i + 2))) = some (r, d2)) (kk : WW g M_L_law (eF hf) 1189 (LH i) [] (full d2 ρ) (kc + 1) (ks + 2) (some ())) : WW g M_L_law (eF hf) 978 (LH i) [] (full d ρ) kc ks (some ()) := by
  refine WW.aload_n (pc := 978) (j := 1) rfl dL_law_978 ?_
  refine WW.aload_n (pc := 979) (j := 0) rfl dL_law_979 ?_
  refine WW.iload_n (pc := 980) (j := 3) rfl dL_law_980 ?_
  refine WW.iconst (pc := 981) 1 dL_law_981 rfl ?_
  refine WW.iadd (pc := 982) dL_law_982 ?_
  refine WW.ialdH (pc := 983) (hin 1 (by decide)) (by decide) (sh_2 ρ) dL_law_983 ?_
  show WW _ _ _ 984 _ [.int (d_i d 2 (ix (i + 1))), .ref 3] (full d ρ) _ _ _
  refine WW.aload_n (pc := 984) (j := 0) rfl dL_law_984 ?_
  refine WW.iload_n (pc := 985) (j := 3) rfl dL_law_985 ?_
  refine WW.iconst (pc := 986) 2 dL_law_986 rfl ?_
  refine WW.iadd (pc := 987) dL_law_987 ?_
  refine WW.ialdH (pc := 988) (hin 2 (by decide)) (by decide) (sh_2 ρ) dL_law_988 ?_
  show WW _ _ _ 989 _ [.int (d_i d 2 (ix (i + 2))), .int (d_i d 2 (ix (i + 1))), .ref 3] (full d ρ) _ _ _
  refine WW.callVH (pc := 989) (As := [.int (d_i d 2 (ix (i + 1))), .int (d_i d 2 (ix (i + 2)))]) (st := []) e1 lk_L_109 (okX11_shown g ρ hρ d (d_i d 2 (ix (i + 1))) (d_i d 2 (ix (i + 2)))) h3_3 (sh_3 ρ) ⟨_, _, clk11⟩ rfl (Nat.le_of_ble_eq_true rfl) ⟨(Nat.le_of_ble_eq_true rfl), (Nat.le_of_ble_eq_true rfl), fitC hk.1 (by decide), fitC hk.2 (by decide)⟩ dL_law_989 rfl ?_
  show WW _ _ _ 992 _ [.int r] (full d1 ρ) _ _ _
  refine WW.aload_n (pc := 992) (j := 2) rfl dL_law_992 ?_
  refine WW.aload_n (pc := 993) (j := 0) rfl dL_law_993 ?_
  refine WW.iload_n (pc := 994) (j := 3) rfl dL_law_994 ?_
  refine WW.iconst (pc := 995) 1 dL_law_995 rfl ?_
  refine WW.iadd (pc := 996) dL_law_996 ?_
  refine WW.ialdH (pc := 997) (hin 1 (by decide)) (by decide) (sh_2 ρ) dL_law_997 ?_
  show WW _ _ _ 998 _ [.int (d_i d1 2 (ix (i + 1))), .ref 23, .int r] (full d1 ρ) _ _ _
  refine WW.aload_n (pc := 998) (j := 0) rfl dL_law_998 ?_
  refine WW.iload_n (pc := 999) (j := 3) rfl dL_law_999 ?_
  refine WW.iconst (pc := 1000) 2 dL_law_1000 rfl ?_
  refine WW.iadd (pc := 1001) dL_law_1001 ?_
  refine WW.ialdH (pc := 1002) (hin 2 (by decide)) (by decide) (sh_2 ρ) dL_law_1002 ?_
  show WW _ _ _ 1003 _ [.int (d_i d1 2 (ix (i + 2))), .int (d_i d1 2 (ix (i + 1))), .ref 23, .int r] (full d1 ρ) _ _ _
  refine WW.callVH (pc := 1003) (As := [.int (d_i d1 2 (ix (i + 1))), .int (d_i d1 2 (ix (i + 2)))]) (st := [.int r]) e2 lk_L_112 (okX12_shown g ρ hρ d1 (d_i d1 2 (ix (i + 1))) (d_i d1 2 (ix (i + 2)))) h3_23 (sh_23 ρ) ⟨_, _, clk12⟩ rfl (Nat.le_of_ble_eq_true rfl) ⟨(Nat.le_of_ble_eq_true rfl), (Nat.le_of_ble_eq_true rfl), fitD hk.1 (by decide), fitD hk.2 (by decide)⟩ dL_law_1003 rfl ?_
  show WW _ _ _ 1006 _ [.int r, .int r] (full d2 ρ) _ _ _
  refine WW.icmpH (pc := 1006) 1189 dL_law_1006 (by decide) ?_
  exact WW.wide (kc' := kc + 1) (ks' := ks + 2) (fitD (Nat.le_refl _) (by decide)) (fitD (Nat.le_refl _) (by decide)) kk
set_option maxHeartbeats 4000000 in
set_option maxRecDepth 100000 in
theorem law_22 {g : Gx} {hf : HP} {ρ : Rh} (hρ : Hr ρ) {d d1 d2 : Dd} {i : Int32} {r : Int64} {kc ks : Nat} (hk : kc + 1 ≤ 600000 ∧ ks + 2 ≤ 7302250) (hin : ∀ j : Int32, j ∈ [1, 2, 3, 4, 5, 6] → inB (i + j) ρ.2.2 = true) (e1 : fX11_thought ρ d (d_i d 2 (ix (i + 1))) (d_i d 2 (ix (i + 2))) (d_i d 2 (ix (i + 3))) (d_i d 2 (ix (i + 4))) = some (r, d1)) (e2 : fX12_thought ρ d1 (d_i d1 2 (ix (i + 1))) (d_i d1 2 (ix (i + 2))) (d_i d1 2 (ix (i + 3))) (d_i d1 2 (ix (i + 4))) = some (r, d2)) (kk : WW g M_L_law (eF hf) 1189 (LH i) [] (full d2 ρ) (kc + 1) (ks + 2) (some ())) : WW g M_L_law (eF hf) 1011 (LH i) [] (full d ρ) kc ks (some ()) := by
  refine WW.aload_n (pc := 1011) (j := 1) rfl dL_law_1011 ?_
  refine WW.aload_n (pc := 1012) (j := 0) rfl dL_law_1012 ?_
  refine WW.iload_n (pc := 1013) (j := 3) rfl dL_law_1013 ?_
  refine WW.iconst (pc := 1014) 1 dL_law_1014 rfl ?_
  refine WW.iadd (pc := 1015) dL_law_1015 ?_
  refine WW.ialdH (pc := 1016) (hin 1 (by decide)) (by decide) (sh_2 ρ) dL_law_1016 ?_
  show WW _ _ _ 1017 _ [.int (d_i d 2 (ix (i + 1))), .ref 3] (full d ρ) _ _ _
  refine WW.aload_n (pc := 1017) (j := 0) rfl dL_law_1017 ?_
  refine WW.iload_n (pc := 1018) (j := 3) rfl dL_law_1018 ?_
  refine WW.iconst (pc := 1019) 2 dL_law_1019 rfl ?_
  refine WW.iadd (pc := 1020) dL_law_1020 ?_
  refine WW.ialdH (pc := 1021) (hin 2 (by decide)) (by decide) (sh_2 ρ) dL_law_1021 ?_
  show WW _ _ _ 1022 _ [.int (d_i d 2 (ix (i + 2))), .int (d_i d 2 (ix (i + 1))), .ref 3] (full d ρ) _ _ _
  refine WW.aload_n (pc := 1022) (j := 0) rfl dL_law_1022 ?_
  refine WW.iload_n (pc := 1023) (j := 3) rfl dL_law_1023 ?_
  refine WW.iconst (pc := 1024) 3 dL_law_1024 rfl ?_
  refine WW.iadd (pc := 1025) dL_law_1025 ?_
  refine WW.ialdH (pc := 1026) (hin 3 (by decide)) (by decide) (sh_2 ρ) dL_law_1026 ?_
  show WW _ _ _ 1027 _ [.int (d_i d 2 (ix (i + 3))), .int (d_i d 2 (ix (i + 2))), .int (d_i d 2 (ix (i + 1))), .ref 3] (full d ρ) _ _ _
  refine WW.aload_n (pc := 1027) (j := 0) rfl dL_law_1027 ?_
  refine WW.iload_n (pc := 1028) (j := 3) rfl dL_law_1028 ?_
  refine WW.iconst (pc := 1029) 4 dL_law_1029 rfl ?_
  refine WW.iadd (pc := 1030) dL_law_1030 ?_
  refine WW.ialdH (pc := 1031) (hin 4 (by decide)) (by decide) (sh_2 ρ) dL_law_1031 ?_
  show WW _ _ _ 1032 _ [.int (d_i d 2 (ix (i + 4))), .int (d_i d 2 (ix (i + 3))), .int (d_i d 2 (ix (i + 2))), .int (d_i d 2 (ix (i + 1))), .ref 3] (full d ρ) _ _ _
  refine WW.callVH (pc := 1032) (As := [.int (d_i d 2 (ix (i + 1))), .int (d_i d 2 (ix (i + 2))), .int (d_i d 2 (ix (i + 3))), .int (d_i d 2 (ix (i + 4)))]) (st := []) e1 lk_L_113 (okX11_thought g ρ hρ d (d_i d 2 (ix (i + 1))) (d_i d 2 (ix (i + 2))) (d_i d 2 (ix (i + 3))) (d_i d 2 (ix (i + 4)))) h3_3 (sh_3 ρ) ⟨_, _, clk11⟩ rfl (Nat.le_of_ble_eq_true rfl) ⟨(Nat.le_of_ble_eq_true rfl), (Nat.le_of_ble_eq_true rfl), fitC hk.1 (by decide), fitC hk.2 (by decide)⟩ dL_law_1032 rfl ?_
  show WW _ _ _ 1035 _ [.long r] (full d1 ρ) _ _ _
  refine WW.aload_n (pc := 1035) (j := 2) rfl dL_law_1035 ?_
  refine WW.aload_n (pc := 1036) (j := 0) rfl dL_law_1036 ?_
  refine WW.iload_n (pc := 1037) (j := 3) rfl dL_law_1037 ?_
  refine WW.iconst (pc := 1038) 1 dL_law_1038 rfl ?_
  refine WW.iadd (pc := 1039) dL_law_1039 ?_
  refine WW.ialdH (pc := 1040) (hin 1 (by decide)) (by decide) (sh_2 ρ) dL_law_1040 ?_
  show WW _ _ _ 1041 _ [.int (d_i d1 2 (ix (i + 1))), .ref 23, .long r] (full d1 ρ) _ _ _
  refine WW.aload_n (pc := 1041) (j := 0) rfl dL_law_1041 ?_
  refine WW.iload_n (pc := 1042) (j := 3) rfl dL_law_1042 ?_
  refine WW.iconst (pc := 1043) 2 dL_law_1043 rfl ?_
  refine WW.iadd (pc := 1044) dL_law_1044 ?_
  refine WW.ialdH (pc := 1045) (hin 2 (by decide)) (by decide) (sh_2 ρ) dL_law_1045 ?_
  show WW _ _ _ 1046 _ [.int (d_i d1 2 (ix (i + 2))), .int (d_i d1 2 (ix (i + 1))), .ref 23, .long r] (full d1 ρ) _ _ _
  refine WW.aload_n (pc := 1046) (j := 0) rfl dL_law_1046 ?_
  refine WW.iload_n (pc := 1047) (j := 3) rfl dL_law_1047 ?_
  refine WW.iconst (pc := 1048) 3 dL_law_1048 rfl ?_
  refine WW.iadd (pc := 1049) dL_law_1049 ?_
  refine WW.ialdH (pc := 1050) (hin 3 (by decide)) (by decide) (sh_2 ρ) dL_law_1050 ?_
  show WW _ _ _ 1051 _ [.int (d_i d1 2 (ix (i + 3))), .int (d_i d1 2 (ix (i + 2))), .int (d_i d1 2 (ix (i + 1))), .ref 23, .long r] (full d1 ρ) _ _ _
  refine WW.aload_n (pc := 1051) (j := 0) rfl dL_law_1051 ?_
  refine WW.iload_n (pc := 1052) (j := 3) rfl dL_law_1052 ?_
  refine WW.iconst (pc := 1053) 4 dL_law_1053 rfl ?_
  refine WW.iadd (pc := 1054) dL_law_1054 ?_
  refine WW.ialdH (pc := 1055) (hin 4 (by decide)) (by decide) (sh_2 ρ) dL_law_1055 ?_
  show WW _ _ _ 1056 _ [.int (d_i d1 2 (ix (i + 4))), .int (d_i d1 2 (ix (i + 3))), .int (d_i d1 2 (ix (i + 2))), .int (d_i d1 2 (ix (i + 1))), .ref 23, .long r] (full d1 ρ) _ _ _
  refine WW.callVH (pc := 1056) (As := [.int (d_i d1 2 (ix (i + 1))), .int (d_i d1 2 (ix (i + 2))), .int (d_i d1 2 (ix (i + 3))), .int (d_i d1 2 (ix (i + 4)))]) (st := [.long r]) e2 lk_L_116 (okX12_thought g ρ hρ d1 (d_i d1 2 (ix (i + 1))) (d_i d1 2 (ix (i + 2))) (d_i d1 2 (ix (i + 3))) (d_i d1 2 (ix (i + 4)))) h3_23 (sh_23 ρ) ⟨_, _, clk12⟩ rfl (Nat.le_of_ble_eq_true rfl) ⟨(Nat.le_of_ble_eq_true rfl), (Nat.le_of_ble_eq_true rfl), fitD hk.1 (by decide), fitD hk.2 (by decide)⟩ dL_law_1056 rfl ?_
  show WW _ _ _ 1059 _ [.long r, .long r] (full d2 ρ) _ _ _
  refine WW.lcmpH (pc := 1059) 1189 dL_law_1059 dL_law_1060 (by decide) ?_
  exact WW.wide (kc' := kc + 1) (ks' := ks + 2) (fitD (Nat.le_refl _) (by decide)) (fitD (Nat.le_refl _) (by decide)) kk
set_option maxHeartbeats 4000000 in
set_option maxRecDepth 100000 in
theorem law_23 {g : Gx} {hf : HP} {ρ : Rh} (hρ : Hr ρ) {d : Dd} {i : Int32} {r : Int64} {kc ks : Nat} (hk : kc + 1 ≤ 600000 ∧ ks + 2 ≤ 7302250) (hin : ∀ j : Int32, j ∈ [1, 2, 3, 4, 5, 6] → inB (i + j) ρ.2.2 = true) (e1 : fX11_bound ρ d (d_i d 2 (ix (i + 1))) = some r) (e2 : fX12_bound ρ d (d_i d 2 (ix (i + 1))) = some r) (kk : WW g M_L_law (eF hf) 1189 (LH i) [] (full d ρ) (kc + 1) (ks + 2) (some ())) : WW g M_L_law (eF hf) 1065 (LH i) [] (full d ρ) kc ks (some ()) := by
  refine WW.aload_n (pc := 1065) (j := 1) rfl dL_law_1065 ?_
  refine WW.aload_n (pc := 1066) (j := 0) rfl dL_law_1066 ?_
  refine WW.iload_n (pc := 1067) (j := 3) rfl dL_law_1067 ?_
  refine WW.iconst (pc := 1068) 1 dL_law_1068 rfl ?_
  refine WW.iadd (pc := 1069) dL_law_1069 ?_
  refine WW.ialdH (pc := 1070) (hin 1 (by decide)) (by decide) (sh_2 ρ) dL_law_1070 ?_
  show WW _ _ _ 1071 _ [.int (d_i d 2 (ix (i + 1))), .ref 3] (full d ρ) _ _ _
  refine WW.callVH (pc := 1071) (As := [.int (d_i d 2 (ix (i + 1)))]) (st := []) e1 lk_L_117 (okX11_bound g ρ hρ d (d_i d 2 (ix (i + 1)))) h3_3 (sh_3 ρ) ⟨_, _, clk11⟩ rfl (Nat.le_of_ble_eq_true rfl) ⟨(Nat.le_of_ble_eq_true rfl), (Nat.le_of_ble_eq_true rfl), fitC hk.1 (by decide), fitC hk.2 (by decide)⟩ dL_law_1071 rfl ?_
  show WW _ _ _ 1074 _ [.long r] (full d ρ) _ _ _
  refine WW.aload_n (pc := 1074) (j := 2) rfl dL_law_1074 ?_
  refine WW.aload_n (pc := 1075) (j := 0) rfl dL_law_1075 ?_
  refine WW.iload_n (pc := 1076) (j := 3) rfl dL_law_1076 ?_
  refine WW.iconst (pc := 1077) 1 dL_law_1077 rfl ?_
  refine WW.iadd (pc := 1078) dL_law_1078 ?_
  refine WW.ialdH (pc := 1079) (hin 1 (by decide)) (by decide) (sh_2 ρ) dL_law_1079 ?_
  show WW _ _ _ 1080 _ [.int (d_i d 2 (ix (i + 1))), .ref 23, .long r] (full d ρ) _ _ _
  refine WW.callVH (pc := 1080) (As := [.int (d_i d 2 (ix (i + 1)))]) (st := [.long r]) e2 lk_L_121 (okX12_bound g ρ hρ d (d_i d 2 (ix (i + 1)))) h3_23 (sh_23 ρ) ⟨_, _, clk12⟩ rfl (Nat.le_of_ble_eq_true rfl) ⟨(Nat.le_of_ble_eq_true rfl), (Nat.le_of_ble_eq_true rfl), fitD hk.1 (by decide), fitD hk.2 (by decide)⟩ dL_law_1080 rfl ?_
  show WW _ _ _ 1083 _ [.long r, .long r] (full d ρ) _ _ _
  refine WW.lcmpH (pc := 1083) 1189 dL_law_1083 dL_law_1084 (by decide) ?_
  exact WW.wide (kc' := kc + 1) (ks' := ks + 2) (fitD (Nat.le_refl _) (by decide)) (fitD (Nat.le_refl _) (by decide)) kk
set_option maxHeartbeats 4000000 in
set_option maxRecDepth 100000 in
theorem law_24 {g : Gx} {hf : HP} {ρ : Rh} (hρ : Hr ρ) {d d1 d2 : Dd} {i : Int32} {r : Int32} {kc ks : Nat} (hk : kc + 1 ≤ 600000 ∧ ks + 2 ≤ 7302250) (hin : ∀ j : Int32, j ∈ [1, 2, 3, 4, 5, 6] → inB (i + j) ρ.2.2 = true) (e1 : fX11_run ρ d (d_i d 2 (ix (i + 1))) (d_i d 2 (ix (i + 2))) (d_i d 2 (ix (i + 3))) (d_i d 2 (ix (i + 4))) (d_i d 2 (ix (i + 5))) = some (r, d1)) (e2 : fX12_run ρ d1 (d_i d1 2 (ix (i + 1))) (d_i d1 2 (ix (i + 2))) (d_i d1 2 (ix (i + 3))) (d_i d1 2 (ix (i + 4))) (d_i d1 2 (ix (i + 5))) = some (r, d2)) (kk : WW g M_L_law (eF hf) 1189 (LH i) [] (full d2 ρ) (kc + 1) (ks + 2) (some ())) : WW g M_L_law (eF hf) 1089 (LH i) [] (full d ρ) kc ks (some ()) := by
  refine WW.aload_n (pc := 1089) (j := 1) rfl dL_law_1089 ?_
  refine WW.aload_n (pc := 1090) (j := 0) rfl dL_law_1090 ?_
  refine WW.iload_n (pc := 1091) (j := 3) rfl dL_law_1091 ?_
  refine WW.iconst (pc := 1092) 1 dL_law_1092 rfl ?_
  refine WW.iadd (pc := 1093) dL_law_1093 ?_
  refine WW.ialdH (pc := 1094) (hin 1 (by decide)) (by decide) (sh_2 ρ) dL_law_1094 ?_
  show WW _ _ _ 1095 _ [.int (d_i d 2 (ix (i + 1))), .ref 3] (full d ρ) _ _ _
  refine WW.aload_n (pc := 1095) (j := 0) rfl dL_law_1095 ?_
  refine WW.iload_n (pc := 1096) (j := 3) rfl dL_law_1096 ?_
  refine WW.iconst (pc := 1097) 2 dL_law_1097 rfl ?_
  refine WW.iadd (pc := 1098) dL_law_1098 ?_
  refine WW.ialdH (pc := 1099) (hin 2 (by decide)) (by decide) (sh_2 ρ) dL_law_1099 ?_
  show WW _ _ _ 1100 _ [.int (d_i d 2 (ix (i + 2))), .int (d_i d 2 (ix (i + 1))), .ref 3] (full d ρ) _ _ _
  refine WW.aload_n (pc := 1100) (j := 0) rfl dL_law_1100 ?_
  refine WW.iload_n (pc := 1101) (j := 3) rfl dL_law_1101 ?_
  refine WW.iconst (pc := 1102) 3 dL_law_1102 rfl ?_
  refine WW.iadd (pc := 1103) dL_law_1103 ?_
  refine WW.ialdH (pc := 1104) (hin 3 (by decide)) (by decide) (sh_2 ρ) dL_law_1104 ?_
  show WW _ _ _ 1105 _ [.int (d_i d 2 (ix (i + 3))), .int (d_i d 2 (ix (i + 2))), .int (d_i d 2 (ix (i + 1))), .ref 3] (full d ρ) _ _ _
  refine WW.aload_n (pc := 1105) (j := 0) rfl dL_law_1105 ?_
  refine WW.iload_n (pc := 1106) (j := 3) rfl dL_law_1106 ?_
  refine WW.iconst (pc := 1107) 4 dL_law_1107 rfl ?_
  refine WW.iadd (pc := 1108) dL_law_1108 ?_
  refine WW.ialdH (pc := 1109) (hin 4 (by decide)) (by decide) (sh_2 ρ) dL_law_1109 ?_
  show WW _ _ _ 1110 _ [.int (d_i d 2 (ix (i + 4))), .int (d_i d 2 (ix (i + 3))), .int (d_i d 2 (ix (i + 2))), .int (d_i d 2 (ix (i + 1))), .ref 3] (full d ρ) _ _ _
  refine WW.aload_n (pc := 1110) (j := 0) rfl dL_law_1110 ?_
  refine WW.iload_n (pc := 1111) (j := 3) rfl dL_law_1111 ?_
  refine WW.iconst (pc := 1112) 5 dL_law_1112 rfl ?_
  refine WW.iadd (pc := 1113) dL_law_1113 ?_
  refine WW.ialdH (pc := 1114) (hin 5 (by decide)) (by decide) (sh_2 ρ) dL_law_1114 ?_
  show WW _ _ _ 1115 _ [.int (d_i d 2 (ix (i + 5))), .int (d_i d 2 (ix (i + 4))), .int (d_i d 2 (ix (i + 3))), .int (d_i d 2 (ix (i + 2))), .int (d_i d 2 (ix (i + 1))), .ref 3] (full d ρ) _ _ _
  refine WW.callVH (pc := 1115) (As := [.int (d_i d 2 (ix (i + 1))), .int (d_i d 2 (ix (i + 2))), .int (d_i d 2 (ix (i + 3))), .int (d_i d 2 (ix (i + 4))), .int (d_i d 2 (ix (i + 5)))]) (st := []) e1 lk_L_122 (okX11_run g ρ hρ d (d_i d 2 (ix (i + 1))) (d_i d 2 (ix (i + 2))) (d_i d 2 (ix (i + 3))) (d_i d 2 (ix (i + 4))) (d_i d 2 (ix (i + 5)))) h3_3 (sh_3 ρ) ⟨_, _, clk11⟩ rfl (Nat.le_of_ble_eq_true rfl) ⟨(Nat.le_of_ble_eq_true rfl), (Nat.le_of_ble_eq_true rfl), fitC hk.1 (by decide), fitC hk.2 (by decide)⟩ dL_law_1115 rfl ?_
  show WW _ _ _ 1118 _ [.int r] (full d1 ρ) _ _ _
  refine WW.aload_n (pc := 1118) (j := 2) rfl dL_law_1118 ?_
  refine WW.aload_n (pc := 1119) (j := 0) rfl dL_law_1119 ?_
  refine WW.iload_n (pc := 1120) (j := 3) rfl dL_law_1120 ?_
  refine WW.iconst (pc := 1121) 1 dL_law_1121 rfl ?_
  refine WW.iadd (pc := 1122) dL_law_1122 ?_
  refine WW.ialdH (pc := 1123) (hin 1 (by decide)) (by decide) (sh_2 ρ) dL_law_1123 ?_
  show WW _ _ _ 1124 _ [.int (d_i d1 2 (ix (i + 1))), .ref 23, .int r] (full d1 ρ) _ _ _
  refine WW.aload_n (pc := 1124) (j := 0) rfl dL_law_1124 ?_
  refine WW.iload_n (pc := 1125) (j := 3) rfl dL_law_1125 ?_
  refine WW.iconst (pc := 1126) 2 dL_law_1126 rfl ?_
  refine WW.iadd (pc := 1127) dL_law_1127 ?_
  refine WW.ialdH (pc := 1128) (hin 2 (by decide)) (by decide) (sh_2 ρ) dL_law_1128 ?_
  show WW _ _ _ 1129 _ [.int (d_i d1 2 (ix (i + 2))), .int (d_i d1 2 (ix (i + 1))), .ref 23, .int r] (full d1 ρ) _ _ _
  refine WW.aload_n (pc := 1129) (j := 0) rfl dL_law_1129 ?_
  refine WW.iload_n (pc := 1130) (j := 3) rfl dL_law_1130 ?_
  refine WW.iconst (pc := 1131) 3 dL_law_1131 rfl ?_
  refine WW.iadd (pc := 1132) dL_law_1132 ?_
  refine WW.ialdH (pc := 1133) (hin 3 (by decide)) (by decide) (sh_2 ρ) dL_law_1133 ?_
  show WW _ _ _ 1134 _ [.int (d_i d1 2 (ix (i + 3))), .int (d_i d1 2 (ix (i + 2))), .int (d_i d1 2 (ix (i + 1))), .ref 23, .int r] (full d1 ρ) _ _ _
  refine WW.aload_n (pc := 1134) (j := 0) rfl dL_law_1134 ?_
  refine WW.iload_n (pc := 1135) (j := 3) rfl dL_law_1135 ?_
  refine WW.iconst (pc := 1136) 4 dL_law_1136 rfl ?_
  refine WW.iadd (pc := 1137) dL_law_1137 ?_
  refine WW.ialdH (pc := 1138) (hin 4 (by decide)) (by decide) (sh_2 ρ) dL_law_1138 ?_
  show WW _ _ _ 1139 _ [.int (d_i d1 2 (ix (i + 4))), .int (d_i d1 2 (ix (i + 3))), .int (d_i d1 2 (ix (i + 2))), .int (d_i d1 2 (ix (i + 1))), .ref 23, .int r] (full d1 ρ) _ _ _
  refine WW.aload_n (pc := 1139) (j := 0) rfl dL_law_1139 ?_
  refine WW.iload_n (pc := 1140) (j := 3) rfl dL_law_1140 ?_
  refine WW.iconst (pc := 1141) 5 dL_law_1141 rfl ?_
  refine WW.iadd (pc := 1142) dL_law_1142 ?_
  refine WW.ialdH (pc := 1143) (hin 5 (by decide)) (by decide) (sh_2 ρ) dL_law_1143 ?_
  show WW _ _ _ 1144 _ [.int (d_i d1 2 (ix (i + 5))), .int (d_i d1 2 (ix (i + 4))), .int (d_i d1 2 (ix (i + 3))), .int (d_i d1 2 (ix (i + 2))), .int (d_i d1 2 (ix (i + 1))), .ref 23, .int r] (full d1 ρ) _ _ _
  refine WW.callVH (pc := 1144) (As := [.int (d_i d1 2 (ix (i + 1))), .int (d_i d1 2 (ix (i + 2))), .int (d_i d1 2 (ix (i + 3))), .int (d_i d1 2 (ix (i + 4))), .int (d_i d1 2 (ix (i + 5)))]) (st := [.int r]) e2 lk_L_126 (okX12_run g ρ hρ d1 (d_i d1 2 (ix (i + 1))) (d_i d1 2 (ix (i + 2))) (d_i d1 2 (ix (i + 3))) (d_i d1 2 (ix (i + 4))) (d_i d1 2 (ix (i + 5)))) h3_23 (sh_23 ρ) ⟨_, _, clk12⟩ rfl (Nat.le_of_ble_eq_true rfl) ⟨(Nat.le_of_ble_eq_true rfl), (Nat.le_of_ble_eq_true rfl), fitD hk.1 (by decide), fitD hk.2 (by decide)⟩ dL_law_1144 rfl ?_
  show WW _ _ _ 1147 _ [.int r, .int r] (full d2 ρ) _ _ _
  refine WW.icmpH (pc := 1147) 1189 dL_law_1147 (by decide) ?_
  exact WW.wide (kc' := kc + 1) (ks' := ks + 2) (fitD (Nat.le_refl _) (by decide)) (fitD (Nat.le_refl _) (by decide)) kk
set_option maxHeartbeats 4000000 in
set_option maxRecDepth 100000 in
theorem law_25 {g : Gx} {hf : HP} {ρ : Rh} (hρ : Hr ρ) {d : Dd} {i : Int32} {r : Int32} {kc ks : Nat} (hk : kc + 1 ≤ 600000 ∧ ks + 2 ≤ 7302250) (hin : ∀ j : Int32, j ∈ [1, 2, 3, 4, 5, 6] → inB (i + j) ρ.2.2 = true) (e1 : fX11_count ρ d (d_i d 2 (ix (i + 1))) = some r) (e2 : fX12_count ρ d (d_i d 2 (ix (i + 1))) = some r) (kk : WW g M_L_law (eF hf) 1189 (LH i) [] (full d ρ) (kc + 1) (ks + 2) (some ())) : WW g M_L_law (eF hf) 1152 (LH i) [] (full d ρ) kc ks (some ()) := by
  refine WW.aload_n (pc := 1152) (j := 1) rfl dL_law_1152 ?_
  refine WW.aload_n (pc := 1153) (j := 0) rfl dL_law_1153 ?_
  refine WW.iload_n (pc := 1154) (j := 3) rfl dL_law_1154 ?_
  refine WW.iconst (pc := 1155) 1 dL_law_1155 rfl ?_
  refine WW.iadd (pc := 1156) dL_law_1156 ?_
  refine WW.ialdH (pc := 1157) (hin 1 (by decide)) (by decide) (sh_2 ρ) dL_law_1157 ?_
  show WW _ _ _ 1158 _ [.int (d_i d 2 (ix (i + 1))), .ref 3] (full d ρ) _ _ _
  refine WW.callVH (pc := 1158) (As := [.int (d_i d 2 (ix (i + 1)))]) (st := []) e1 lk_L_127 (okX11_count g ρ hρ d (d_i d 2 (ix (i + 1)))) h3_3 (sh_3 ρ) ⟨_, _, clk11⟩ rfl (Nat.le_of_ble_eq_true rfl) ⟨(Nat.le_of_ble_eq_true rfl), (Nat.le_of_ble_eq_true rfl), fitC hk.1 (by decide), fitC hk.2 (by decide)⟩ dL_law_1158 rfl ?_
  show WW _ _ _ 1161 _ [.int r] (full d ρ) _ _ _
  refine WW.aload_n (pc := 1161) (j := 2) rfl dL_law_1161 ?_
  refine WW.aload_n (pc := 1162) (j := 0) rfl dL_law_1162 ?_
  refine WW.iload_n (pc := 1163) (j := 3) rfl dL_law_1163 ?_
  refine WW.iconst (pc := 1164) 1 dL_law_1164 rfl ?_
  refine WW.iadd (pc := 1165) dL_law_1165 ?_
  refine WW.ialdH (pc := 1166) (hin 1 (by decide)) (by decide) (sh_2 ρ) dL_law_1166 ?_
  show WW _ _ _ 1167 _ [.int (d_i d 2 (ix (i + 1))), .ref 23, .int r] (full d ρ) _ _ _
  refine WW.callVH (pc := 1167) (As := [.int (d_i d 2 (ix (i + 1)))]) (st := [.int r]) e2 lk_L_130 (okX12_count g ρ hρ d (d_i d 2 (ix (i + 1)))) h3_23 (sh_23 ρ) ⟨_, _, clk12⟩ rfl (Nat.le_of_ble_eq_true rfl) ⟨(Nat.le_of_ble_eq_true rfl), (Nat.le_of_ble_eq_true rfl), fitD hk.1 (by decide), fitD hk.2 (by decide)⟩ dL_law_1167 rfl ?_
  show WW _ _ _ 1170 _ [.int r, .int r] (full d ρ) _ _ _
  refine WW.icmpH (pc := 1170) 1189 dL_law_1170 (by decide) ?_
  exact WW.wide (kc' := kc + 1) (ks' := ks + 2) (fitD (Nat.le_refl _) (by decide)) (fitD (Nat.le_refl _) (by decide)) kk
set_option maxHeartbeats 4000000 in
set_option maxRecDepth 100000 in
theorem law_26 {g : Gx} {hf : HP} {ρ : Rh} (hρ : Hr ρ) {d d1 d2 : Dd} {i : Int32} {r : Int64} {kc ks : Nat} (hk : kc + 1 ≤ 600000 ∧ ks + 2 ≤ 7302250) (hin : ∀ j : Int32, j ∈ [1, 2, 3, 4, 5, 6] → inB (i + j) ρ.2.2 = true) (e1 : fX11_digest ρ d = some (r, d1)) (e2 : fX12_digest ρ d1 = some (r, d2)) (kk : WW g M_L_law (eF hf) 1189 (LH i) [] (full d2 ρ) (kc + 1) (ks + 2) (some ())) : WW g M_L_law (eF hf) 1175 (LH i) [] (full d ρ) kc ks (some ()) := by
  refine WW.aload_n (pc := 1175) (j := 1) rfl dL_law_1175 ?_
  refine WW.callVH (pc := 1176) (As := []) (st := []) e1 lk_L_131 (okX11_digest g ρ hρ d ) h3_3 (sh_3 ρ) ⟨_, _, clk11⟩ rfl (Nat.le_of_ble_eq_true rfl) ⟨(Nat.le_of_ble_eq_true rfl), (Nat.le_of_ble_eq_true rfl), fitC hk.1 (by decide), fitC hk.2 (by decide)⟩ dL_law_1176 rfl ?_
  show WW _ _ _ 1179 _ [.long r] (full d1 ρ) _ _ _
  refine WW.aload_n (pc := 1179) (j := 2) rfl dL_law_1179 ?_
  refine WW.callVH (pc := 1180) (As := []) (st := [.long r]) e2 lk_L_135 (okX12_digest g ρ hρ d1 ) h3_23 (sh_23 ρ) ⟨_, _, clk12⟩ rfl (Nat.le_of_ble_eq_true rfl) ⟨(Nat.le_of_ble_eq_true rfl), (Nat.le_of_ble_eq_true rfl), fitD hk.1 (by decide), fitD hk.2 (by decide)⟩ dL_law_1180 rfl ?_
  show WW _ _ _ 1183 _ [.long r, .long r] (full d2 ρ) _ _ _
  refine WW.lcmpH (pc := 1183) 1189 dL_law_1183 dL_law_1184 (by decide) ?_
  exact WW.wide (kc' := kc + 1) (ks' := ks + 2) (fitD (Nat.le_refl _) (by decide)) (fitD (Nat.le_refl _) (by decide)) kk
