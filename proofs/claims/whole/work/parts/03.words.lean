def lw_ok : List Cond := lw_tbl.filter goodWord
theorem lw_okm {w : Cond} (h : w ∈ lw_tbl) (g : goodWord w = true) : w ∈ lw_ok := List.mem_filter.mpr ⟨h, g⟩
theorem lw_okt {w : Cond} (h : w ∈ lw_ok) : w ∈ lw_tbl := (List.mem_filter.mp h).1
theorem lm0 {w : Cond} (h : w ∈ k2_sels lw_privs) (g : goodWord w = true) : w ∈ lw_ok := lw_okm (List.mem_append_left _ h) g
theorem lm1 {w : Cond} (h : w ∈ tables_1_1) (g : goodWord w = true) : w ∈ lw_ok := lw_okm (List.mem_append_right _ (List.mem_append_left _ h)) g
theorem lm2 {w : Cond} (h : w ∈ tables_1_2) (g : goodWord w = true) : w ∈ lw_ok := lw_okm (List.mem_append_right _ (List.mem_append_right _ (List.mem_append_left _ h))) g
theorem lm3 {w : Cond} (h : w ∈ tables_1_3) (g : goodWord w = true) : w ∈ lw_ok := lw_okm (List.mem_append_right _ (List.mem_append_right _ (List.mem_append_right _ (List.mem_append_left _ h)))) g
theorem lm4 {w : Cond} (h : w ∈ tables_1_4) (g : goodWord w = true) : w ∈ lw_ok := lw_okm (List.mem_append_right _ (List.mem_append_right _ (List.mem_append_right _ (List.mem_append_right _ (List.mem_append_left _ h))))) g
theorem lm5 {w : Cond} (h : w ∈ tables_1_5) (g : goodWord w = true) : w ∈ lw_ok := lw_okm (List.mem_append_right _ (List.mem_append_right _ (List.mem_append_right _ (List.mem_append_right _ (List.mem_append_right _ (List.mem_append_left _ h)))))) g
theorem lm6 {w : Cond} (h : w ∈ tables_1_6) (g : goodWord w = true) : w ∈ lw_ok := lw_okm (List.mem_append_right _ (List.mem_append_right _ (List.mem_append_right _ (List.mem_append_right _ (List.mem_append_right _ (List.mem_append_right _ (List.mem_append_left _ h))))))) g
theorem lm7 {w : Cond} (h : w ∈ tables_1_7) (g : goodWord w = true) : w ∈ lw_ok := lw_okm (List.mem_append_right _ (List.mem_append_right _ (List.mem_append_right _ (List.mem_append_right _ (List.mem_append_right _ (List.mem_append_right _ (List.mem_append_right _ h))))))) g
theorem sub_g (ws : List Cond) (ps : List Nat) (hp : ws = ps.filterMap (fun i => lw_tbl[i]?)) (hg : ws.all goodWord = true) : ∀ w ∈ ws, w ∈ lw_ok := by
  intro w hw
  have g := List.all_eq_true.mp hg w hw
  rw [hp] at hw
  obtain ⟨i, -, hi⟩ := List.mem_filterMap.mp hw
  exact lw_okm (List.mem_of_getElem? hi) g
theorem wd0 : (.selects RX11 yX11_refuse yX11_refuse : Cond) ∈ lw_ok := lm0 (List.mem_of_getElem? (i := 0) (by decide +kernel)) rfl
theorem wd1 : (.selects RX11 yX11_refusePlace yX11_refusePlace : Cond) ∈ lw_ok := lm0 (List.mem_of_getElem? (i := 1) (by decide +kernel)) rfl
theorem wd2 : (.selects RX11 yX11_refuseMissing yX11_refuseMissing : Cond) ∈ lw_ok := lm0 (List.mem_of_getElem? (i := 2) (by decide +kernel)) rfl
theorem wd3 : (.selects RX11 yX11_tell yX11_tell : Cond) ∈ lw_ok := lm0 (List.mem_of_getElem? (i := 3) (by decide +kernel)) rfl
theorem wd4 : (.selects RX11 yX11_forgetKept yX11_forgetKept : Cond) ∈ lw_ok := lm0 (List.mem_of_getElem? (i := 4) (by decide +kernel)) rfl
theorem wd5 : (.selects RX11 yX11_keptAt yX11_keptAt : Cond) ∈ lw_ok := lm0 (List.mem_of_getElem? (i := 5) (by decide +kernel)) rfl
theorem wd6 : (.selects RX11 yX11_passOneHour yX11_passOneHour : Cond) ∈ lw_ok := lm0 (List.mem_of_getElem? (i := 6) (by decide +kernel)) rfl
theorem wd7 : (.selects RX11 yX11_sign yX11_sign : Cond) ∈ lw_ok := lm0 (List.mem_of_getElem? (i := 7) (by decide +kernel)) rfl
theorem wd8 : (.selects RX11 yX11_tellFraction yX11_tellFraction : Cond) ∈ lw_ok := lm0 (List.mem_of_getElem? (i := 8) (by decide +kernel)) rfl
theorem wd9 : (.selects RX11 yX11_likeliestBut yX11_likeliestBut : Cond) ∈ lw_ok := lm0 (List.mem_of_getElem? (i := 9) (by decide +kernel)) rfl
theorem wd10 : (.selects RX11 yX11_readOrder yX11_readOrder : Cond) ∈ lw_ok := lm0 (List.mem_of_getElem? (i := 10) (by decide +kernel)) rfl
theorem wd11 : (.selects RX11 yX11_bringIn yX11_bringIn : Cond) ∈ lw_ok := lm0 (List.mem_of_getElem? (i := 11) (by decide +kernel)) rfl
theorem wd12 : (.selects RX11 yX11_isSetOfDesks yX11_isSetOfDesks : Cond) ∈ lw_ok := lm0 (List.mem_of_getElem? (i := 12) (by decide +kernel)) rfl
theorem wd13 : (.selects RX11 yX11_tryAllOrders yX11_tryAllOrders : Cond) ∈ lw_ok := lm0 (List.mem_of_getElem? (i := 13) (by decide +kernel)) rfl
theorem wd14 : (.selects RX11 yX11_priceStep yX11_priceStep : Cond) ∈ lw_ok := lm0 (List.mem_of_getElem? (i := 14) (by decide +kernel)) rfl
theorem wd15 : (.selects RX11 yX11_isWay yX11_isWay : Cond) ∈ lw_ok := lm0 (List.mem_of_getElem? (i := 15) (by decide +kernel)) rfl
theorem wd16 : (.selects RX11 yX11_numberOfKept yX11_numberOfKept : Cond) ∈ lw_ok := lm0 (List.mem_of_getElem? (i := 16) (by decide +kernel)) rfl
theorem wd17 : (.selects RX11 yX11_hourKept yX11_hourKept : Cond) ∈ lw_ok := lm0 (List.mem_of_getElem? (i := 17) (by decide +kernel)) rfl
theorem wd18 : (.selects RX11 yX11_mixDesk yX11_mixDesk : Cond) ∈ lw_ok := lm0 (List.mem_of_getElem? (i := 18) (by decide +kernel)) rfl
theorem wd19 : (.selects RX12 yX12_meet yX12_meet : Cond) ∈ lw_ok := lm0 (List.mem_of_getElem? (i := 19) (by decide +kernel)) rfl
theorem wd20 : (.selects RX12 yX12_setRow yX12_setRow : Cond) ∈ lw_ok := lm0 (List.mem_of_getElem? (i := 20) (by decide +kernel)) rfl
theorem wd21 : (.selects RX12 yX12_askedRow yX12_askedRow : Cond) ∈ lw_ok := lm0 (List.mem_of_getElem? (i := 21) (by decide +kernel)) rfl
theorem wd22 : (.selects RX12 yX12_rowAt yX12_rowAt : Cond) ∈ lw_ok := lm0 (List.mem_of_getElem? (i := 22) (by decide +kernel)) rfl
theorem wd23 : (.selects RX12 yX12_say yX12_say : Cond) ∈ lw_ok := lm0 (List.mem_of_getElem? (i := 23) (by decide +kernel)) rfl
theorem wd24 : (.selects RX12 yX12_askedText yX12_askedText : Cond) ∈ lw_ok := lm0 (List.mem_of_getElem? (i := 24) (by decide +kernel)) rfl
theorem wd25 : (.selects RX12 yX12_goesOn yX12_goesOn : Cond) ∈ lw_ok := lm0 (List.mem_of_getElem? (i := 25) (by decide +kernel)) rfl
theorem wd26 : (.selects RX12 yX12_here yX12_here : Cond) ∈ lw_ok := lm0 (List.mem_of_getElem? (i := 26) (by decide +kernel)) rfl
theorem wd27 : (.selects RX12 yX12_readsDesk yX12_readsDesk : Cond) ∈ lw_ok := lm0 (List.mem_of_getElem? (i := 27) (by decide +kernel)) rfl
theorem wd28 : (.selects RX12 yX12_starts0 yX12_starts0 : Cond) ∈ lw_ok := lm0 (List.mem_of_getElem? (i := 28) (by decide +kernel)) rfl
theorem wd29 : (.selects RX12 yX12_isDesk yX12_isDesk : Cond) ∈ lw_ok := lm0 (List.mem_of_getElem? (i := 29) (by decide +kernel)) rfl
theorem wd30 : (.selects RX12 yX12_of yX12_of : Cond) ∈ lw_ok := lm0 (List.mem_of_getElem? (i := 30) (by decide +kernel)) rfl
theorem wd31 : (.selects RX12 yX12_isA yX12_isA : Cond) ∈ lw_ok := lm0 (List.mem_of_getElem? (i := 31) (by decide +kernel)) rfl
theorem wd32 : (.selects RX12 yX12_isAway yX12_isAway : Cond) ∈ lw_ok := lm0 (List.mem_of_getElem? (i := 32) (by decide +kernel)) rfl
theorem wd33 : (.selects RX12 yX12_wordOf yX12_wordOf : Cond) ∈ lw_ok := lm0 (List.mem_of_getElem? (i := 33) (by decide +kernel)) rfl
theorem wd34 : (.selects RX12 yX12_countWords yX12_countWords : Cond) ∈ lw_ok := lm0 (List.mem_of_getElem? (i := 34) (by decide +kernel)) rfl
theorem wd35 : (.selects RX12 yX12_ownOf yX12_ownOf : Cond) ∈ lw_ok := lm0 (List.mem_of_getElem? (i := 35) (by decide +kernel)) rfl
theorem wd36 : (.selects RX12 yX12_namedOf yX12_namedOf : Cond) ∈ lw_ok := lm0 (List.mem_of_getElem? (i := 36) (by decide +kernel)) rfl
theorem wd37 : (.selects RX12 yX12_linkedTo yX12_linkedTo : Cond) ∈ lw_ok := lm0 (List.mem_of_getElem? (i := 37) (by decide +kernel)) rfl
theorem wd38 : (.selects RX12 yX12_passHour yX12_passHour : Cond) ∈ lw_ok := lm0 (List.mem_of_getElem? (i := 38) (by decide +kernel)) rfl
theorem wd39 : (.selects RX12 yX12_puts yX12_puts : Cond) ∈ lw_ok := lm0 (List.mem_of_getElem? (i := 39) (by decide +kernel)) rfl
theorem wd40 : (.selects RX12 yX12_givesOf yX12_givesOf : Cond) ∈ lw_ok := lm0 (List.mem_of_getElem? (i := 40) (by decide +kernel)) rfl
theorem wd41 : (.selects RX12 yX12_nextOf yX12_nextOf : Cond) ∈ lw_ok := lm0 (List.mem_of_getElem? (i := 41) (by decide +kernel)) rfl
theorem wd42 : (.selects RX12 yX12_all yX12_all : Cond) ∈ lw_ok := lm0 (List.mem_of_getElem? (i := 42) (by decide +kernel)) rfl
theorem wd43 : (.selects RX12 yX12_toldOf yX12_toldOf : Cond) ∈ lw_ok := lm0 (List.mem_of_getElem? (i := 43) (by decide +kernel)) rfl
theorem wd44 : (.selects RX12 yX12_coinsNow yX12_coinsNow : Cond) ∈ lw_ok := lm0 (List.mem_of_getElem? (i := 44) (by decide +kernel)) rfl
theorem wd45 : (.selects RX12 yX12_setOdds yX12_setOdds : Cond) ∈ lw_ok := lm0 (List.mem_of_getElem? (i := 45) (by decide +kernel)) rfl
theorem wd46 : (.selects RX12 yX12_addHour yX12_addHour : Cond) ∈ lw_ok := lm0 (List.mem_of_getElem? (i := 46) (by decide +kernel)) rfl
theorem wd47 : (.selects RX12 yX12_part yX12_part : Cond) ∈ lw_ok := lm0 (List.mem_of_getElem? (i := 47) (by decide +kernel)) rfl
theorem wd48 : (.selects RX12 yX12_weightAt yX12_weightAt : Cond) ∈ lw_ok := lm0 (List.mem_of_getElem? (i := 48) (by decide +kernel)) rfl
theorem wd49 : (.selects RX12 yX12_askedOrder yX12_askedOrder : Cond) ∈ lw_ok := lm0 (List.mem_of_getElem? (i := 49) (by decide +kernel)) rfl
theorem wd50 : (.selects RX12 yX12_sumBy yX12_sumBy : Cond) ∈ lw_ok := lm0 (List.mem_of_getElem? (i := 50) (by decide +kernel)) rfl
theorem wd51 : (.selects RX12 yX12_putAside yX12_putAside : Cond) ∈ lw_ok := lm0 (List.mem_of_getElem? (i := 51) (by decide +kernel)) rfl
theorem wd52 : (.selects RX12 yX12_putsRow yX12_putsRow : Cond) ∈ lw_ok := lm0 (List.mem_of_getElem? (i := 52) (by decide +kernel)) rfl
theorem wd53 : (.selects RX12 yX12_comeBack yX12_comeBack : Cond) ∈ lw_ok := lm0 (List.mem_of_getElem? (i := 53) (by decide +kernel)) rfl
theorem wd54 : (.selects RX12 yX12_setSpans yX12_setSpans : Cond) ∈ lw_ok := lm0 (List.mem_of_getElem? (i := 54) (by decide +kernel)) rfl
theorem wd55 : (.selects RX12 yX12_orderOn yX12_orderOn : Cond) ∈ lw_ok := lm0 (List.mem_of_getElem? (i := 55) (by decide +kernel)) rfl
theorem wd56 : (.selects RX12 yX12_setNone yX12_setNone : Cond) ∈ lw_ok := lm0 (List.mem_of_getElem? (i := 56) (by decide +kernel)) rfl
theorem wd57 : (.selects RX12 yX12_areNames yX12_areNames : Cond) ∈ lw_ok := lm0 (List.mem_of_getElem? (i := 57) (by decide +kernel)) rfl
theorem wd58 : (.selects RX12 yX12_leaves yX12_leaves : Cond) ∈ lw_ok := lm0 (List.mem_of_getElem? (i := 58) (by decide +kernel)) rfl
theorem wd59 : (.selects RX12 yX12_balanceOf yX12_balanceOf : Cond) ∈ lw_ok := lm0 (List.mem_of_getElem? (i := 59) (by decide +kernel)) rfl
theorem wd60 : (.selects RX12 yX12_apartBy yX12_apartBy : Cond) ∈ lw_ok := lm0 (List.mem_of_getElem? (i := 60) (by decide +kernel)) rfl
theorem wd61 : (.selects RX12 yX12_counts yX12_counts : Cond) ∈ lw_ok := lm0 (List.mem_of_getElem? (i := 61) (by decide +kernel)) rfl
theorem wd62 : (.selects RX12 yX12_mix yX12_mix : Cond) ∈ lw_ok := lm0 (List.mem_of_getElem? (i := 62) (by decide +kernel)) rfl
theorem wd63 : (.selects RX12 yX12_mixOffice yX12_mixOffice : Cond) ∈ lw_ok := lm0 (List.mem_of_getElem? (i := 63) (by decide +kernel)) rfl
theorem wd64 : (.initialized RL : Cond) ∈ lw_ok := lm1 (List.mem_of_getElem? (i := 0) (by decide +kernel)) rfl
theorem wd65 : (.initialized RX11 : Cond) ∈ lw_ok := lm1 (List.mem_of_getElem? (i := 1) (by decide +kernel)) rfl
theorem wd66 : (.initialized RX7 : Cond) ∈ lw_ok := lm1 (List.mem_of_getElem? (i := 2) (by decide +kernel)) rfl
theorem wd67 : (.initialized RJ9 : Cond) ∈ lw_ok := lm1 (List.mem_of_getElem? (i := 3) (by decide +kernel)) rfl
theorem wd68 : (.initialized RX1 : Cond) ∈ lw_ok := lm1 (List.mem_of_getElem? (i := 4) (by decide +kernel)) rfl
theorem wd69 : (.initialized RX6 : Cond) ∈ lw_ok := lm1 (List.mem_of_getElem? (i := 5) (by decide +kernel)) rfl
theorem wd70 : (.initialized RX10 : Cond) ∈ lw_ok := lm1 (List.mem_of_getElem? (i := 6) (by decide +kernel)) rfl
theorem wd71 : (.initialized RX9 : Cond) ∈ lw_ok := lm1 (List.mem_of_getElem? (i := 7) (by decide +kernel)) rfl
theorem wd72 : (.initialized RX5 : Cond) ∈ lw_ok := lm1 (List.mem_of_getElem? (i := 8) (by decide +kernel)) rfl
theorem wd73 : (.initialized RX0 : Cond) ∈ lw_ok := lm1 (List.mem_of_getElem? (i := 9) (by decide +kernel)) rfl
theorem wd74 : (.initialized RX2 : Cond) ∈ lw_ok := lm1 (List.mem_of_getElem? (i := 10) (by decide +kernel)) rfl
theorem wd75 : (.initialized RX8 : Cond) ∈ lw_ok := lm1 (List.mem_of_getElem? (i := 11) (by decide +kernel)) rfl
theorem wd76 : (.initialized RX3 : Cond) ∈ lw_ok := lm1 (List.mem_of_getElem? (i := 12) (by decide +kernel)) rfl
theorem wd77 : (.initialized RX4 : Cond) ∈ lw_ok := lm1 (List.mem_of_getElem? (i := 13) (by decide +kernel)) rfl
theorem wd78 : (.initialized RX12 : Cond) ∈ lw_ok := lm1 (List.mem_of_getElem? (i := 14) (by decide +kernel)) rfl
theorem wd79 : (.initialized RJ6 : Cond) ∈ lw_ok := lm1 (List.mem_of_getElem? (i := 15) (by decide +kernel)) rfl
theorem wd80 : (.classLink RL 7 RX11 : Cond) ∈ lw_ok := lm1 (List.mem_of_getElem? (i := 16) (by decide +kernel)) rfl
theorem wd81 : (.instantiable RX11 19 : Cond) ∈ lw_ok := lm1 (List.mem_of_getElem? (i := 17) (by decide +kernel)) rfl
theorem wd82 : (.methodLink RL 9 yX11_init : Cond) ∈ lw_ok := lm1 (List.mem_of_getElem? (i := 18) (by decide +kernel)) rfl
theorem wd83 : (.instanceMethod yX11_init : Cond) ∈ lw_ok := lm1 (List.mem_of_getElem? (i := 19) (by decide +kernel)) rfl
theorem wd84 : (.code yX11_init cX11_init 2 (none : Option Jvm.ClassFile.FieldType) : Cond) ∈ lw_ok := lm1 (List.mem_of_getElem? (i := 20) (by decide +kernel)) rfl
theorem wd85 : (.methodLink RX11 1 Lib.objectInit : Cond) ∈ lw_ok := lm1 (List.mem_of_getElem? (i := 21) (by decide +kernel)) rfl
theorem wd86 : (.instanceMethod Lib.objectInit : Cond) ∈ lw_ok := lm1 (List.mem_of_getElem? (i := 22) (by decide +kernel)) rfl
theorem wd87 : (.code Lib.objectInit ⟨#[0xb1]⟩ 1 (none : Option Jvm.ClassFile.FieldType) : Cond) ∈ lw_ok := lm1 (List.mem_of_getElem? (i := 23) (by decide +kernel)) rfl
theorem wd88 : (.classLink RX11 7 RX7 : Cond) ∈ lw_ok := lm1 (List.mem_of_getElem? (i := 24) (by decide +kernel)) rfl
theorem wd89 : (.instantiable RX7 3 : Cond) ∈ lw_ok := lm1 (List.mem_of_getElem? (i := 25) (by decide +kernel)) rfl
theorem wd90 : (.methodLink RX11 11 yX7_init : Cond) ∈ lw_ok := lm1 (List.mem_of_getElem? (i := 26) (by decide +kernel)) rfl
theorem wd91 : (.instanceMethod yX7_init : Cond) ∈ lw_ok := lm1 (List.mem_of_getElem? (i := 27) (by decide +kernel)) rfl
theorem wd92 : (.code yX7_init cX7_init 4 (none : Option Jvm.ClassFile.FieldType) : Cond) ∈ lw_ok := lm1 (List.mem_of_getElem? (i := 28) (by decide +kernel)) rfl
theorem wd93 : (.methodLink RX7 3 Lib.objectInit : Cond) ∈ lw_ok := lm1 (List.mem_of_getElem? (i := 29) (by decide +kernel)) rfl
theorem wd94 : (.methodLink RX7 9 Lib.Math.max.name : Cond) ∈ lw_ok := lm1 (List.mem_of_getElem? (i := 30) (by decide +kernel)) rfl
theorem wd95 : (.static Lib.Math.max.name : Cond) ∈ lw_ok := lm1 (List.mem_of_getElem? (i := 31) (by decide +kernel)) rfl
theorem wd96 : (.code Lib.Math.max.name Lib.Math.max.code 2 (some .int) : Cond) ∈ lw_ok := lm1 (List.mem_of_getElem? (i := 32) (by decide +kernel)) rfl
theorem wd97 : (.fieldLink RX7 15 "EnvelopeCard$Shelf" "places" "I" : Cond) ∈ lw_ok := lm1 (List.mem_of_getElem? (i := 33) (by decide +kernel)) rfl
theorem wd98 : (.fieldLink RX7 21 "EnvelopeCard$Shelf" "sizes" "[I" : Cond) ∈ lw_ok := lm1 (List.mem_of_getElem? (i := 34) (by decide +kernel)) rfl
theorem wd99 : (.fieldLink RX7 25 "EnvelopeCard$Shelf" "cells" "[I" : Cond) ∈ lw_ok := lm1 (List.mem_of_getElem? (i := 35) (by decide +kernel)) rfl
theorem wd107 : (.arrayClass .int : Cond) ∈ lw_ok := lm1 (List.mem_of_getElem? (i := 43) (by decide +kernel)) rfl
theorem wd108 : (.classLink RX11 21 RX1 : Cond) ∈ lw_ok := lm1 (List.mem_of_getElem? (i := 44) (by decide +kernel)) rfl
theorem wd109 : (.instantiable RX1 2 : Cond) ∈ lw_ok := lm1 (List.mem_of_getElem? (i := 45) (by decide +kernel)) rfl
theorem wd111 : (.instanceMethod yX1_init : Cond) ∈ lw_ok := lm1 (List.mem_of_getElem? (i := 47) (by decide +kernel)) rfl
theorem wd112 : (.code yX1_init cX1_init 1 (none : Option Jvm.ClassFile.FieldType) : Cond) ∈ lw_ok := lm1 (List.mem_of_getElem? (i := 48) (by decide +kernel)) rfl
theorem wd113 : (.methodLink RX1 3 Lib.objectInit : Cond) ∈ lw_ok := lm1 (List.mem_of_getElem? (i := 49) (by decide +kernel)) rfl
theorem wd114 : (.fieldLink RX1 9 "EnvelopeCard$Desks" "facts" "[I" : Cond) ∈ lw_ok := lm1 (List.mem_of_getElem? (i := 50) (by decide +kernel)) rfl
theorem wd115 : (.fieldLink RX1 15 "EnvelopeCard$Desks" "number" "I" : Cond) ∈ lw_ok := lm1 (List.mem_of_getElem? (i := 51) (by decide +kernel)) rfl
theorem wd116 : (.fieldLink RX10 38 "EnvelopeCard$Desks" "number" "I" : Cond) ∈ lw_ok := lm1 (List.mem_of_getElem? (i := 52) (by decide +kernel)) rfl
theorem wd117 : (.fieldLink RX11 172 "EnvelopeCard$Desks" "number" "I" : Cond) ∈ lw_ok := lm1 (List.mem_of_getElem? (i := 53) (by decide +kernel)) rfl
theorem wd123 : (.classLink RX11 31 RX6 : Cond) ∈ lw_ok := lm1 (List.mem_of_getElem? (i := 59) (by decide +kernel)) rfl
theorem wd124 : (.instantiable RX6 13 : Cond) ∈ lw_ok := lm1 (List.mem_of_getElem? (i := 60) (by decide +kernel)) rfl
theorem wd126 : (.instanceMethod yX6_init : Cond) ∈ lw_ok := lm1 (List.mem_of_getElem? (i := 62) (by decide +kernel)) rfl
theorem wd127 : (.code yX6_init cX6_init 1 (none : Option Jvm.ClassFile.FieldType) : Cond) ∈ lw_ok := lm1 (List.mem_of_getElem? (i := 63) (by decide +kernel)) rfl
theorem wd128 : (.methodLink RX6 3 Lib.objectInit : Cond) ∈ lw_ok := lm1 (List.mem_of_getElem? (i := 64) (by decide +kernel)) rfl
theorem wd129 : (.fieldLink RX6 9 "EnvelopeCard$Round" "hours" "[I" : Cond) ∈ lw_ok := lm1 (List.mem_of_getElem? (i := 65) (by decide +kernel)) rfl
theorem wd130 : (.fieldLink RX6 15 "EnvelopeCard$Round" "gifts" "[I" : Cond) ∈ lw_ok := lm1 (List.mem_of_getElem? (i := 66) (by decide +kernel)) rfl
theorem wd131 : (.fieldLink RX6 18 "EnvelopeCard$Round" "written" "[I" : Cond) ∈ lw_ok := lm1 (List.mem_of_getElem? (i := 67) (by decide +kernel)) rfl
theorem wd132 : (.fieldLink RX6 21 "EnvelopeCard$Round" "start" "I" : Cond) ∈ lw_ok := lm1 (List.mem_of_getElem? (i := 68) (by decide +kernel)) rfl
theorem wd133 : (.fieldLink RX11 280 "EnvelopeCard$Round" "start" "I" : Cond) ∈ lw_ok := lm1 (List.mem_of_getElem? (i := 69) (by decide +kernel)) rfl
theorem wd134 : (.fieldLink RX6 25 "EnvelopeCard$Round" "rule" "I" : Cond) ∈ lw_ok := lm1 (List.mem_of_getElem? (i := 70) (by decide +kernel)) rfl
theorem wd135 : (.fieldLink RX2 52 "EnvelopeCard$Round" "rule" "I" : Cond) ∈ lw_ok := lm1 (List.mem_of_getElem? (i := 71) (by decide +kernel)) rfl
theorem wd136 : (.fieldLink RX11 246 "EnvelopeCard$Round" "rule" "I" : Cond) ∈ lw_ok := lm1 (List.mem_of_getElem? (i := 72) (by decide +kernel)) rfl
theorem wd137 : (.fieldLink RX6 28 "EnvelopeCard$Round" "at" "I" : Cond) ∈ lw_ok := lm1 (List.mem_of_getElem? (i := 73) (by decide +kernel)) rfl
theorem wd138 : (.fieldLink RX2 32 "EnvelopeCard$Round" "at" "I" : Cond) ∈ lw_ok := lm1 (List.mem_of_getElem? (i := 74) (by decide +kernel)) rfl
theorem wd139 : (.fieldLink RX11 224 "EnvelopeCard$Round" "at" "I" : Cond) ∈ lw_ok := lm1 (List.mem_of_getElem? (i := 75) (by decide +kernel)) rfl
theorem wd140 : (.fieldLink RX6 31 "EnvelopeCard$Round" "isBack" "Z" : Cond) ∈ lw_ok := lm1 (List.mem_of_getElem? (i := 76) (by decide +kernel)) rfl
theorem wd141 : (.fieldLink RX2 41 "EnvelopeCard$Round" "isBack" "Z" : Cond) ∈ lw_ok := lm1 (List.mem_of_getElem? (i := 77) (by decide +kernel)) rfl
theorem wd142 : (.fieldLink RX11 216 "EnvelopeCard$Round" "isBack" "Z" : Cond) ∈ lw_ok := lm1 (List.mem_of_getElem? (i := 78) (by decide +kernel)) rfl
theorem wd143 : (.fieldLink RX6 35 "EnvelopeCard$Round" "hour" "I" : Cond) ∈ lw_ok := lm1 (List.mem_of_getElem? (i := 79) (by decide +kernel)) rfl
theorem wd144 : (.fieldLink RX2 49 "EnvelopeCard$Round" "hour" "I" : Cond) ∈ lw_ok := lm1 (List.mem_of_getElem? (i := 80) (by decide +kernel)) rfl
theorem wd145 : (.fieldLink RX11 184 "EnvelopeCard$Round" "hour" "I" : Cond) ∈ lw_ok := lm1 (List.mem_of_getElem? (i := 81) (by decide +kernel)) rfl
theorem wd146 : (.fieldLink RX6 38 "EnvelopeCard$Round" "crossed" "I" : Cond) ∈ lw_ok := lm1 (List.mem_of_getElem? (i := 82) (by decide +kernel)) rfl
theorem wd147 : (.fieldLink RX2 38 "EnvelopeCard$Round" "crossed" "I" : Cond) ∈ lw_ok := lm1 (List.mem_of_getElem? (i := 83) (by decide +kernel)) rfl
theorem wd148 : (.fieldLink RX11 243 "EnvelopeCard$Round" "crossed" "I" : Cond) ∈ lw_ok := lm1 (List.mem_of_getElem? (i := 84) (by decide +kernel)) rfl
theorem wd149 : (.fieldLink RX6 41 "EnvelopeCard$Round" "law" "I" : Cond) ∈ lw_ok := lm1 (List.mem_of_getElem? (i := 85) (by decide +kernel)) rfl
theorem wd150 : (.fieldLink RX5 30 "EnvelopeCard$Round" "law" "I" : Cond) ∈ lw_ok := lm1 (List.mem_of_getElem? (i := 86) (by decide +kernel)) rfl
theorem wd151 : (.fieldLink RX11 202 "EnvelopeCard$Round" "law" "I" : Cond) ∈ lw_ok := lm1 (List.mem_of_getElem? (i := 87) (by decide +kernel)) rfl
theorem wd152 : (.fieldLink RX6 44 "EnvelopeCard$Round" "named" "I" : Cond) ∈ lw_ok := lm1 (List.mem_of_getElem? (i := 88) (by decide +kernel)) rfl
theorem wd153 : (.fieldLink RX5 33 "EnvelopeCard$Round" "named" "I" : Cond) ∈ lw_ok := lm1 (List.mem_of_getElem? (i := 89) (by decide +kernel)) rfl
theorem wd154 : (.fieldLink RX11 205 "EnvelopeCard$Round" "named" "I" : Cond) ∈ lw_ok := lm1 (List.mem_of_getElem? (i := 90) (by decide +kernel)) rfl
theorem wd155 : (.fieldLink RX6 47 "EnvelopeCard$Round" "linked" "I" : Cond) ∈ lw_ok := lm1 (List.mem_of_getElem? (i := 91) (by decide +kernel)) rfl
theorem wd156 : (.fieldLink RX5 34 "EnvelopeCard$Round" "linked" "I" : Cond) ∈ lw_ok := lm1 (List.mem_of_getElem? (i := 92) (by decide +kernel)) rfl
theorem wd157 : (.fieldLink RX11 208 "EnvelopeCard$Round" "linked" "I" : Cond) ∈ lw_ok := lm1 (List.mem_of_getElem? (i := 93) (by decide +kernel)) rfl
theorem wd158 : (.fieldLink RX6 50 "EnvelopeCard$Round" "isThere" "Z" : Cond) ∈ lw_ok := lm1 (List.mem_of_getElem? (i := 94) (by decide +kernel)) rfl
theorem wd159 : (.fieldLink RX11 260 "EnvelopeCard$Round" "isThere" "Z" : Cond) ∈ lw_ok := lm1 (List.mem_of_getElem? (i := 95) (by decide +kernel)) rfl
theorem wd188 : (.classLink RX11 42 RX10 : Cond) ∈ lw_ok := lm1 (List.mem_of_getElem? (i := 124) (by decide +kernel)) rfl
theorem wd189 : (.instantiable RX10 4 : Cond) ∈ lw_ok := lm1 (List.mem_of_getElem? (i := 125) (by decide +kernel)) rfl
theorem wd191 : (.instanceMethod yX10_init : Cond) ∈ lw_ok := lm1 (List.mem_of_getElem? (i := 127) (by decide +kernel)) rfl
theorem wd192 : (.code yX10_init cX10_init 1 (none : Option Jvm.ClassFile.FieldType) : Cond) ∈ lw_ok := lm1 (List.mem_of_getElem? (i := 128) (by decide +kernel)) rfl
theorem wd193 : (.methodLink RX10 3 Lib.objectInit : Cond) ∈ lw_ok := lm1 (List.mem_of_getElem? (i := 129) (by decide +kernel)) rfl
theorem wd194 : (.fieldLink RX10 9 "EnvelopeCard$Years" "leavers" "[I" : Cond) ∈ lw_ok := lm1 (List.mem_of_getElem? (i := 130) (by decide +kernel)) rfl
theorem wd195 : (.fieldLink RX10 15 "EnvelopeCard$Years" "changes" "[I" : Cond) ∈ lw_ok := lm1 (List.mem_of_getElem? (i := 131) (by decide +kernel)) rfl
theorem wd196 : (.fieldLink RX10 18 "EnvelopeCard$Years" "balances" "[I" : Cond) ∈ lw_ok := lm1 (List.mem_of_getElem? (i := 132) (by decide +kernel)) rfl
theorem wd197 : (.fieldLink RX10 21 "EnvelopeCard$Years" "number" "I" : Cond) ∈ lw_ok := lm1 (List.mem_of_getElem? (i := 133) (by decide +kernel)) rfl
theorem wd198 : (.fieldLink RX11 166 "EnvelopeCard$Years" "number" "I" : Cond) ∈ lw_ok := lm1 (List.mem_of_getElem? (i := 134) (by decide +kernel)) rfl
theorem wd208 : (.classLink RX11 49 RX9 : Cond) ∈ lw_ok := lm1 (List.mem_of_getElem? (i := 144) (by decide +kernel)) rfl
theorem wd209 : (.instantiable RX9 6 : Cond) ∈ lw_ok := lm1 (List.mem_of_getElem? (i := 145) (by decide +kernel)) rfl
theorem wd211 : (.instanceMethod yX9_init : Cond) ∈ lw_ok := lm1 (List.mem_of_getElem? (i := 147) (by decide +kernel)) rfl
theorem wd212 : (.code yX9_init cX9_init 1 (none : Option Jvm.ClassFile.FieldType) : Cond) ∈ lw_ok := lm1 (List.mem_of_getElem? (i := 148) (by decide +kernel)) rfl
theorem wd213 : (.methodLink RX9 3 Lib.objectInit : Cond) ∈ lw_ok := lm1 (List.mem_of_getElem? (i := 149) (by decide +kernel)) rfl
theorem wd214 : (.fieldLink RX9 9 "EnvelopeCard$Walk" "signers" "[I" : Cond) ∈ lw_ok := lm1 (List.mem_of_getElem? (i := 150) (by decide +kernel)) rfl
theorem wd215 : (.fieldLink RX9 15 "EnvelopeCard$Walk" "signed" "I" : Cond) ∈ lw_ok := lm1 (List.mem_of_getElem? (i := 151) (by decide +kernel)) rfl
theorem wd216 : (.fieldLink RX11 427 "EnvelopeCard$Walk" "signed" "I" : Cond) ∈ lw_ok := lm1 (List.mem_of_getElem? (i := 152) (by decide +kernel)) rfl
theorem wd217 : (.fieldLink RX9 19 "EnvelopeCard$Walk" "at" "I" : Cond) ∈ lw_ok := lm1 (List.mem_of_getElem? (i := 153) (by decide +kernel)) rfl
theorem wd218 : (.fieldLink RX2 101 "EnvelopeCard$Walk" "at" "I" : Cond) ∈ lw_ok := lm1 (List.mem_of_getElem? (i := 154) (by decide +kernel)) rfl
theorem wd219 : (.fieldLink RX11 439 "EnvelopeCard$Walk" "at" "I" : Cond) ∈ lw_ok := lm1 (List.mem_of_getElem? (i := 155) (by decide +kernel)) rfl
theorem wd220 : (.fieldLink RX9 22 "EnvelopeCard$Walk" "crossed" "I" : Cond) ∈ lw_ok := lm1 (List.mem_of_getElem? (i := 156) (by decide +kernel)) rfl
theorem wd221 : (.fieldLink RX2 102 "EnvelopeCard$Walk" "crossed" "I" : Cond) ∈ lw_ok := lm1 (List.mem_of_getElem? (i := 157) (by decide +kernel)) rfl
theorem wd222 : (.fieldLink RX9 25 "EnvelopeCard$Walk" "target" "I" : Cond) ∈ lw_ok := lm1 (List.mem_of_getElem? (i := 158) (by decide +kernel)) rfl
theorem wd223 : (.fieldLink RX2 98 "EnvelopeCard$Walk" "target" "I" : Cond) ∈ lw_ok := lm1 (List.mem_of_getElem? (i := 159) (by decide +kernel)) rfl
theorem wd224 : (.fieldLink RX11 440 "EnvelopeCard$Walk" "target" "I" : Cond) ∈ lw_ok := lm1 (List.mem_of_getElem? (i := 160) (by decide +kernel)) rfl
theorem wd225 : (.fieldLink RX9 28 "EnvelopeCard$Walk" "heap" "I" : Cond) ∈ lw_ok := lm1 (List.mem_of_getElem? (i := 161) (by decide +kernel)) rfl
theorem wd226 : (.fieldLink RX2 95 "EnvelopeCard$Walk" "heap" "I" : Cond) ∈ lw_ok := lm1 (List.mem_of_getElem? (i := 162) (by decide +kernel)) rfl
theorem wd227 : (.fieldLink RX11 436 "EnvelopeCard$Walk" "heap" "I" : Cond) ∈ lw_ok := lm1 (List.mem_of_getElem? (i := 163) (by decide +kernel)) rfl
theorem wd241 : (.classLink RX11 56 RX5 : Cond) ∈ lw_ok := lm1 (List.mem_of_getElem? (i := 177) (by decide +kernel)) rfl
theorem wd242 : (.instantiable RX5 6 : Cond) ∈ lw_ok := lm1 (List.mem_of_getElem? (i := 178) (by decide +kernel)) rfl
theorem wd244 : (.instanceMethod yX5_init : Cond) ∈ lw_ok := lm1 (List.mem_of_getElem? (i := 180) (by decide +kernel)) rfl
theorem wd245 : (.code yX5_init cX5_init 1 (none : Option Jvm.ClassFile.FieldType) : Cond) ∈ lw_ok := lm1 (List.mem_of_getElem? (i := 181) (by decide +kernel)) rfl
theorem wd246 : (.methodLink RX5 3 Lib.objectInit : Cond) ∈ lw_ok := lm1 (List.mem_of_getElem? (i := 182) (by decide +kernel)) rfl
theorem wd247 : (.fieldLink RX5 9 "EnvelopeCard$Pot" "law" "I" : Cond) ∈ lw_ok := lm1 (List.mem_of_getElem? (i := 183) (by decide +kernel)) rfl
theorem wd248 : (.fieldLink RX11 378 "EnvelopeCard$Pot" "law" "I" : Cond) ∈ lw_ok := lm1 (List.mem_of_getElem? (i := 184) (by decide +kernel)) rfl
theorem wd249 : (.fieldLink RX5 15 "EnvelopeCard$Pot" "named" "I" : Cond) ∈ lw_ok := lm1 (List.mem_of_getElem? (i := 185) (by decide +kernel)) rfl
theorem wd250 : (.fieldLink RX11 325 "EnvelopeCard$Pot" "named" "I" : Cond) ∈ lw_ok := lm1 (List.mem_of_getElem? (i := 186) (by decide +kernel)) rfl
theorem wd251 : (.fieldLink RX5 18 "EnvelopeCard$Pot" "linked" "I" : Cond) ∈ lw_ok := lm1 (List.mem_of_getElem? (i := 187) (by decide +kernel)) rfl
theorem wd252 : (.fieldLink RX5 21 "EnvelopeCard$Pot" "total" "I" : Cond) ∈ lw_ok := lm1 (List.mem_of_getElem? (i := 188) (by decide +kernel)) rfl
theorem wd253 : (.fieldLink RX10 53 "EnvelopeCard$Pot" "total" "I" : Cond) ∈ lw_ok := lm1 (List.mem_of_getElem? (i := 189) (by decide +kernel)) rfl
theorem wd254 : (.fieldLink RX11 234 "EnvelopeCard$Pot" "total" "I" : Cond) ∈ lw_ok := lm1 (List.mem_of_getElem? (i := 190) (by decide +kernel)) rfl
theorem wd255 : (.fieldLink RX5 24 "EnvelopeCard$Pot" "givers" "I" : Cond) ∈ lw_ok := lm1 (List.mem_of_getElem? (i := 191) (by decide +kernel)) rfl
theorem wd256 : (.fieldLink RX5 27 "EnvelopeCard$Pot" "least" "I" : Cond) ∈ lw_ok := lm1 (List.mem_of_getElem? (i := 192) (by decide +kernel)) rfl
theorem wd270 : (.classLink RX11 66 RX0 : Cond) ∈ lw_ok := lm1 (List.mem_of_getElem? (i := 206) (by decide +kernel)) rfl
theorem wd271 : (.instantiable RX0 1 : Cond) ∈ lw_ok := lm1 (List.mem_of_getElem? (i := 207) (by decide +kernel)) rfl
theorem wd273 : (.instanceMethod yX0_init : Cond) ∈ lw_ok := lm1 (List.mem_of_getElem? (i := 209) (by decide +kernel)) rfl
theorem wd274 : (.code yX0_init cX0_init 1 (none : Option Jvm.ClassFile.FieldType) : Cond) ∈ lw_ok := lm1 (List.mem_of_getElem? (i := 210) (by decide +kernel)) rfl
theorem wd275 : (.methodLink RX0 3 Lib.objectInit : Cond) ∈ lw_ok := lm1 (List.mem_of_getElem? (i := 211) (by decide +kernel)) rfl
theorem wd276 : (.fieldLink RX0 9 "EnvelopeCard$Card" "times" "[I" : Cond) ∈ lw_ok := lm1 (List.mem_of_getElem? (i := 212) (by decide +kernel)) rfl
theorem wd280 : (.classLink RX11 73 RX2 : Cond) ∈ lw_ok := lm1 (List.mem_of_getElem? (i := 216) (by decide +kernel)) rfl
theorem wd281 : (.instantiable RX2 4 : Cond) ∈ lw_ok := lm1 (List.mem_of_getElem? (i := 217) (by decide +kernel)) rfl
theorem wd283 : (.instanceMethod yX2_init : Cond) ∈ lw_ok := lm1 (List.mem_of_getElem? (i := 219) (by decide +kernel)) rfl
theorem wd284 : (.code yX2_init cX2_init 1 (none : Option Jvm.ClassFile.FieldType) : Cond) ∈ lw_ok := lm1 (List.mem_of_getElem? (i := 220) (by decide +kernel)) rfl
theorem wd285 : (.methodLink RX2 3 Lib.objectInit : Cond) ∈ lw_ok := lm1 (List.mem_of_getElem? (i := 221) (by decide +kernel)) rfl
theorem wd286 : (.classLink RX2 9 RX9 : Cond) ∈ lw_ok := lm1 (List.mem_of_getElem? (i := 222) (by decide +kernel)) rfl
theorem wd288 : (.classLink RX2 18 RX8 : Cond) ∈ lw_ok := lm1 (List.mem_of_getElem? (i := 224) (by decide +kernel)) rfl
theorem wd289 : (.instantiable RX8 4 : Cond) ∈ lw_ok := lm1 (List.mem_of_getElem? (i := 225) (by decide +kernel)) rfl
theorem wd291 : (.instanceMethod yX8_init : Cond) ∈ lw_ok := lm1 (List.mem_of_getElem? (i := 227) (by decide +kernel)) rfl
theorem wd292 : (.code yX8_init cX8_init 1 (none : Option Jvm.ClassFile.FieldType) : Cond) ∈ lw_ok := lm1 (List.mem_of_getElem? (i := 228) (by decide +kernel)) rfl
theorem wd293 : (.methodLink RX8 3 Lib.objectInit : Cond) ∈ lw_ok := lm1 (List.mem_of_getElem? (i := 229) (by decide +kernel)) rfl
theorem wd294 : (.fieldLink RX8 11 "EnvelopeCard$Spread" "parts" "[J" : Cond) ∈ lw_ok := lm1 (List.mem_of_getElem? (i := 230) (by decide +kernel)) rfl
theorem wd295 : (.fieldLink RX8 15 "EnvelopeCard$Spread" "keys" "[I" : Cond) ∈ lw_ok := lm1 (List.mem_of_getElem? (i := 231) (by decide +kernel)) rfl
theorem wd296 : (.fieldLink RX8 19 "EnvelopeCard$Spread" "number" "I" : Cond) ∈ lw_ok := lm1 (List.mem_of_getElem? (i := 232) (by decide +kernel)) rfl
theorem wd297 : (.fieldLink RX2 71 "EnvelopeCard$Spread" "number" "I" : Cond) ∈ lw_ok := lm1 (List.mem_of_getElem? (i := 233) (by decide +kernel)) rfl
theorem wd298 : (.fieldLink RX8 23 "EnvelopeCard$Spread" "partHome" "J" : Cond) ∈ lw_ok := lm1 (List.mem_of_getElem? (i := 234) (by decide +kernel)) rfl
theorem wd299 : (.fieldLink RX2 62 "EnvelopeCard$Spread" "partHome" "J" : Cond) ∈ lw_ok := lm1 (List.mem_of_getElem? (i := 235) (by decide +kernel)) rfl
theorem wd309 : (.arrayClass .long : Cond) ∈ lw_ok := lm2 (List.mem_of_getElem? (i := 5) (by decide +kernel)) rfl
theorem wd310 : (.fieldLink RX2 12 "EnvelopeCard$Forecast" "walk" "LEnvelopeCard$Walk;" : Cond) ∈ lw_ok := lm2 (List.mem_of_getElem? (i := 6) (by decide +kernel)) rfl
theorem wd311 : (.fieldLink RX2 21 "EnvelopeCard$Forecast" "now" "LEnvelopeCard$Spread;" : Cond) ∈ lw_ok := lm2 (List.mem_of_getElem? (i := 7) (by decide +kernel)) rfl
theorem wd312 : (.fieldLink RX2 25 "EnvelopeCard$Forecast" "then" "LEnvelopeCard$Spread;" : Cond) ∈ lw_ok := lm2 (List.mem_of_getElem? (i := 8) (by decide +kernel)) rfl
theorem wd313 : (.fieldLink RX2 28 "EnvelopeCard$Forecast" "whole" "J" : Cond) ∈ lw_ok := lm2 (List.mem_of_getElem? (i := 9) (by decide +kernel)) rfl
theorem wd314 : (.fieldLink RX11 273 "EnvelopeCard$Forecast" "whole" "J" : Cond) ∈ lw_ok := lm2 (List.mem_of_getElem? (i := 10) (by decide +kernel)) rfl
theorem wd324 : (.classLink RX11 80 RX3 : Cond) ∈ lw_ok := lm2 (List.mem_of_getElem? (i := 20) (by decide +kernel)) rfl
theorem wd325 : (.instantiable RX3 6 : Cond) ∈ lw_ok := lm2 (List.mem_of_getElem? (i := 21) (by decide +kernel)) rfl
theorem wd327 : (.instanceMethod yX3_init : Cond) ∈ lw_ok := lm2 (List.mem_of_getElem? (i := 23) (by decide +kernel)) rfl
theorem wd328 : (.code yX3_init cX3_init 1 (none : Option Jvm.ClassFile.FieldType) : Cond) ∈ lw_ok := lm2 (List.mem_of_getElem? (i := 24) (by decide +kernel)) rfl
theorem wd329 : (.methodLink RX3 3 Lib.objectInit : Cond) ∈ lw_ok := lm2 (List.mem_of_getElem? (i := 25) (by decide +kernel)) rfl
theorem wd330 : (.fieldLink RX3 9 "EnvelopeCard$Order" "sequence" "[I" : Cond) ∈ lw_ok := lm2 (List.mem_of_getElem? (i := 26) (by decide +kernel)) rfl
theorem wd331 : (.fieldLink RX3 15 "EnvelopeCard$Order" "bestSequence" "[I" : Cond) ∈ lw_ok := lm2 (List.mem_of_getElem? (i := 27) (by decide +kernel)) rfl
theorem wd332 : (.fieldLink RX3 18 "EnvelopeCard$Order" "length" "I" : Cond) ∈ lw_ok := lm2 (List.mem_of_getElem? (i := 28) (by decide +kernel)) rfl
theorem wd333 : (.fieldLink RX11 313 "EnvelopeCard$Order" "length" "I" : Cond) ∈ lw_ok := lm2 (List.mem_of_getElem? (i := 29) (by decide +kernel)) rfl
theorem wd334 : (.fieldLink RX3 22 "EnvelopeCard$Order" "members" "I" : Cond) ∈ lw_ok := lm2 (List.mem_of_getElem? (i := 30) (by decide +kernel)) rfl
theorem wd335 : (.fieldLink RX3 25 "EnvelopeCard$Order" "most" "I" : Cond) ∈ lw_ok := lm2 (List.mem_of_getElem? (i := 31) (by decide +kernel)) rfl
theorem wd336 : (.fieldLink RX11 319 "EnvelopeCard$Order" "most" "I" : Cond) ∈ lw_ok := lm2 (List.mem_of_getElem? (i := 32) (by decide +kernel)) rfl
theorem wd337 : (.fieldLink RX3 28 "EnvelopeCard$Order" "least" "I" : Cond) ∈ lw_ok := lm2 (List.mem_of_getElem? (i := 33) (by decide +kernel)) rfl
theorem wd338 : (.fieldLink RX11 322 "EnvelopeCard$Order" "least" "I" : Cond) ∈ lw_ok := lm2 (List.mem_of_getElem? (i := 34) (by decide +kernel)) rfl
theorem wd352 : (.classLink RX11 87 RX4 : Cond) ∈ lw_ok := lm2 (List.mem_of_getElem? (i := 48) (by decide +kernel)) rfl
theorem wd353 : (.instantiable RX4 1 : Cond) ∈ lw_ok := lm2 (List.mem_of_getElem? (i := 49) (by decide +kernel)) rfl
theorem wd355 : (.instanceMethod yX4_init : Cond) ∈ lw_ok := lm2 (List.mem_of_getElem? (i := 51) (by decide +kernel)) rfl
theorem wd356 : (.code yX4_init cX4_init 1 (none : Option Jvm.ClassFile.FieldType) : Cond) ∈ lw_ok := lm2 (List.mem_of_getElem? (i := 52) (by decide +kernel)) rfl
theorem wd357 : (.methodLink RX4 5 Lib.objectInit : Cond) ∈ lw_ok := lm2 (List.mem_of_getElem? (i := 53) (by decide +kernel)) rfl
theorem wd358 : (.fieldLink RX4 11 "EnvelopeCard$Packing" "leastLaid" "[I" : Cond) ∈ lw_ok := lm2 (List.mem_of_getElem? (i := 54) (by decide +kernel)) rfl
theorem wd362 : (.fieldLink RX11 14 "EnvelopeCard" "rows" "LEnvelopeCard$Shelf;" : Cond) ∈ lw_ok := lm2 (List.mem_of_getElem? (i := 58) (by decide +kernel)) rfl
theorem wd363 : (.fieldLink RX11 18 "EnvelopeCard" "texts" "LEnvelopeCard$Shelf;" : Cond) ∈ lw_ok := lm2 (List.mem_of_getElem? (i := 59) (by decide +kernel)) rfl
theorem wd364 : (.fieldLink RX11 24 "EnvelopeCard" "desks" "LEnvelopeCard$Desks;" : Cond) ∈ lw_ok := lm2 (List.mem_of_getElem? (i := 60) (by decide +kernel)) rfl
theorem wd365 : (.fieldLink RX11 28 "EnvelopeCard" "draft" "LEnvelopeCard$Desks;" : Cond) ∈ lw_ok := lm2 (List.mem_of_getElem? (i := 61) (by decide +kernel)) rfl
theorem wd366 : (.fieldLink RX11 34 "EnvelopeCard" "round" "LEnvelopeCard$Round;" : Cond) ∈ lw_ok := lm2 (List.mem_of_getElem? (i := 62) (by decide +kernel)) rfl
theorem wd367 : (.fieldLink RX11 38 "EnvelopeCard" "kept" "[LEnvelopeCard$Round;" : Cond) ∈ lw_ok := lm2 (List.mem_of_getElem? (i := 63) (by decide +kernel)) rfl
theorem wd368 : (.fieldLink RX11 45 "EnvelopeCard" "years" "LEnvelopeCard$Years;" : Cond) ∈ lw_ok := lm2 (List.mem_of_getElem? (i := 64) (by decide +kernel)) rfl
theorem wd369 : (.fieldLink RX11 52 "EnvelopeCard" "walk" "LEnvelopeCard$Walk;" : Cond) ∈ lw_ok := lm2 (List.mem_of_getElem? (i := 65) (by decide +kernel)) rfl
theorem wd370 : (.fieldLink RX11 59 "EnvelopeCard" "lying" "LEnvelopeCard$Pot;" : Cond) ∈ lw_ok := lm2 (List.mem_of_getElem? (i := 66) (by decide +kernel)) rfl
theorem wd371 : (.fieldLink RX11 63 "EnvelopeCard" "trial" "LEnvelopeCard$Pot;" : Cond) ∈ lw_ok := lm2 (List.mem_of_getElem? (i := 67) (by decide +kernel)) rfl
theorem wd372 : (.fieldLink RX11 69 "EnvelopeCard" "card" "LEnvelopeCard$Card;" : Cond) ∈ lw_ok := lm2 (List.mem_of_getElem? (i := 68) (by decide +kernel)) rfl
theorem wd373 : (.fieldLink RX11 76 "EnvelopeCard" "forecast" "LEnvelopeCard$Forecast;" : Cond) ∈ lw_ok := lm2 (List.mem_of_getElem? (i := 69) (by decide +kernel)) rfl
theorem wd374 : (.fieldLink RX11 83 "EnvelopeCard" "sequence" "LEnvelopeCard$Order;" : Cond) ∈ lw_ok := lm2 (List.mem_of_getElem? (i := 70) (by decide +kernel)) rfl
theorem wd375 : (.fieldLink RX11 90 "EnvelopeCard" "packing" "LEnvelopeCard$Packing;" : Cond) ∈ lw_ok := lm2 (List.mem_of_getElem? (i := 71) (by decide +kernel)) rfl
theorem wd376 : (.fieldLink RX11 94 "EnvelopeCard" "findingCounts" "[I" : Cond) ∈ lw_ok := lm2 (List.mem_of_getElem? (i := 72) (by decide +kernel)) rfl
theorem wd377 : (.fieldLink RX11 98 "EnvelopeCard" "latestFinding" "I" : Cond) ∈ lw_ok := lm2 (List.mem_of_getElem? (i := 73) (by decide +kernel)) rfl
theorem wd378 : (.fieldLink RX11 102 "EnvelopeCard" "askedNumber" "I" : Cond) ∈ lw_ok := lm2 (List.mem_of_getElem? (i := 74) (by decide +kernel)) rfl
theorem wd379 : (.fieldLink RX11 105 "EnvelopeCard" "upperNumber" "J" : Cond) ∈ lw_ok := lm2 (List.mem_of_getElem? (i := 75) (by decide +kernel)) rfl
theorem wd380 : (.fieldLink RX11 109 "EnvelopeCard" "lowerNumber" "J" : Cond) ∈ lw_ok := lm2 (List.mem_of_getElem? (i := 76) (by decide +kernel)) rfl
theorem wd420 : (.methodLink RL 13 yX11_row : Cond) ∈ lw_ok := lm2 (List.mem_of_getElem? (i := 116) (by decide +kernel)) rfl
theorem wd421 : (.instanceMethod yX11_row : Cond) ∈ lw_ok := lm2 (List.mem_of_getElem? (i := 117) (by decide +kernel)) rfl
theorem wd422 : (.selects RX11 yX11_row yX11_row : Cond) ∈ lw_ok := lm2 (List.mem_of_getElem? (i := 118) (by decide +kernel)) rfl
theorem wd423 : (.code yX11_row cX11_row 3 (some .int) : Cond) ∈ lw_ok := lm2 (List.mem_of_getElem? (i := 119) (by decide +kernel)) rfl
theorem wd424 : (.methodLink RX11 112 yX7_names : Cond) ∈ lw_ok := lm2 (List.mem_of_getElem? (i := 120) (by decide +kernel)) rfl
theorem wd425 : (.instanceMethod yX7_names : Cond) ∈ lw_ok := lm2 (List.mem_of_getElem? (i := 121) (by decide +kernel)) rfl
theorem wd426 : (.selects RX7 yX7_names yX7_names : Cond) ∈ lw_ok := lm2 (List.mem_of_getElem? (i := 122) (by decide +kernel)) rfl
theorem wd427 : (.code yX7_names cX7_names 2 (some .boolean) : Cond) ∈ lw_ok := lm2 (List.mem_of_getElem? (i := 123) (by decide +kernel)) rfl
theorem wd428 : (.methodLink RX11 116 yX11_refuse : Cond) ∈ lw_ok := lm2 (List.mem_of_getElem? (i := 124) (by decide +kernel)) rfl
theorem wd430 : (.instanceMethod yX11_refuse : Cond) ∈ lw_ok := lm2 (List.mem_of_getElem? (i := 126) (by decide +kernel)) rfl
theorem wd431 : (.code yX11_refuse cX11_refuse 2 (some .int) : Cond) ∈ lw_ok := lm2 (List.mem_of_getElem? (i := 127) (by decide +kernel)) rfl
theorem wd432 : (.methodLink RX11 120 yX7_make : Cond) ∈ lw_ok := lm2 (List.mem_of_getElem? (i := 128) (by decide +kernel)) rfl
theorem wd433 : (.instanceMethod yX7_make : Cond) ∈ lw_ok := lm2 (List.mem_of_getElem? (i := 129) (by decide +kernel)) rfl
theorem wd434 : (.selects RX7 yX7_make yX7_make : Cond) ∈ lw_ok := lm2 (List.mem_of_getElem? (i := 130) (by decide +kernel)) rfl
theorem wd435 : (.code yX7_make cX7_make 5 (none : Option Jvm.ClassFile.FieldType) : Cond) ∈ lw_ok := lm2 (List.mem_of_getElem? (i := 131) (by decide +kernel)) rfl
theorem wd436 : (.methodLink RX7 36 yX7_setCell : Cond) ∈ lw_ok := lm2 (List.mem_of_getElem? (i := 132) (by decide +kernel)) rfl
theorem wd437 : (.instanceMethod yX7_setCell : Cond) ∈ lw_ok := lm2 (List.mem_of_getElem? (i := 133) (by decide +kernel)) rfl
theorem wd438 : (.selects RX7 yX7_setCell yX7_setCell : Cond) ∈ lw_ok := lm2 (List.mem_of_getElem? (i := 134) (by decide +kernel)) rfl
theorem wd439 : (.code yX7_setCell cX7_setCell 5 (none : Option Jvm.ClassFile.FieldType) : Cond) ∈ lw_ok := lm2 (List.mem_of_getElem? (i := 135) (by decide +kernel)) rfl
theorem wd440 : (.methodLink RX7 32 yX7_hasPlace : Cond) ∈ lw_ok := lm2 (List.mem_of_getElem? (i := 136) (by decide +kernel)) rfl
theorem wd441 : (.instanceMethod yX7_hasPlace : Cond) ∈ lw_ok := lm2 (List.mem_of_getElem? (i := 137) (by decide +kernel)) rfl
theorem wd442 : (.selects RX7 yX7_hasPlace yX7_hasPlace : Cond) ∈ lw_ok := lm2 (List.mem_of_getElem? (i := 138) (by decide +kernel)) rfl
theorem wd443 : (.code yX7_hasPlace cX7_hasPlace 3 (some .boolean) : Cond) ∈ lw_ok := lm2 (List.mem_of_getElem? (i := 139) (by decide +kernel)) rfl
theorem wd444 : (.methodLink RX7 28 yX7_sizeOf : Cond) ∈ lw_ok := lm2 (List.mem_of_getElem? (i := 140) (by decide +kernel)) rfl
theorem wd445 : (.instanceMethod yX7_sizeOf : Cond) ∈ lw_ok := lm2 (List.mem_of_getElem? (i := 141) (by decide +kernel)) rfl
theorem wd446 : (.selects RX7 yX7_sizeOf yX7_sizeOf : Cond) ∈ lw_ok := lm2 (List.mem_of_getElem? (i := 142) (by decide +kernel)) rfl
theorem wd447 : (.code yX7_sizeOf cX7_sizeOf 2 (some .int) : Cond) ∈ lw_ok := lm2 (List.mem_of_getElem? (i := 143) (by decide +kernel)) rfl
theorem wd448 : (.methodLink RL 18 yX11_lay : Cond) ∈ lw_ok := lm2 (List.mem_of_getElem? (i := 144) (by decide +kernel)) rfl
theorem wd449 : (.instanceMethod yX11_lay : Cond) ∈ lw_ok := lm2 (List.mem_of_getElem? (i := 145) (by decide +kernel)) rfl
theorem wd450 : (.selects RX11 yX11_lay yX11_lay : Cond) ∈ lw_ok := lm2 (List.mem_of_getElem? (i := 146) (by decide +kernel)) rfl
theorem wd451 : (.code yX11_lay cX11_lay 6 (some .int) : Cond) ∈ lw_ok := lm2 (List.mem_of_getElem? (i := 147) (by decide +kernel)) rfl
theorem wd452 : (.methodLink RX11 124 yX11_refusePlace : Cond) ∈ lw_ok := lm2 (List.mem_of_getElem? (i := 148) (by decide +kernel)) rfl
theorem wd454 : (.instanceMethod yX11_refusePlace : Cond) ∈ lw_ok := lm2 (List.mem_of_getElem? (i := 150) (by decide +kernel)) rfl
theorem wd455 : (.code yX11_refusePlace cX11_refusePlace 5 (some .int) : Cond) ∈ lw_ok := lm2 (List.mem_of_getElem? (i := 151) (by decide +kernel)) rfl
theorem wd456 : (.methodLink RX11 138 yX11_refuseMissing : Cond) ∈ lw_ok := lm2 (List.mem_of_getElem? (i := 152) (by decide +kernel)) rfl
theorem wd458 : (.instanceMethod yX11_refuseMissing : Cond) ∈ lw_ok := lm2 (List.mem_of_getElem? (i := 154) (by decide +kernel)) rfl
theorem wd459 : (.code yX11_refuseMissing cX11_refuseMissing 3 (some .int) : Cond) ∈ lw_ok := lm2 (List.mem_of_getElem? (i := 155) (by decide +kernel)) rfl
theorem wd460 : (.methodLink RX11 146 yX7_isThere : Cond) ∈ lw_ok := lm2 (List.mem_of_getElem? (i := 156) (by decide +kernel)) rfl
theorem wd461 : (.instanceMethod yX7_isThere : Cond) ∈ lw_ok := lm2 (List.mem_of_getElem? (i := 157) (by decide +kernel)) rfl
theorem wd462 : (.selects RX7 yX7_isThere yX7_isThere : Cond) ∈ lw_ok := lm2 (List.mem_of_getElem? (i := 158) (by decide +kernel)) rfl
theorem wd463 : (.code yX7_isThere cX7_isThere 2 (some .boolean) : Cond) ∈ lw_ok := lm2 (List.mem_of_getElem? (i := 159) (by decide +kernel)) rfl
theorem wd464 : (.methodLink RX11 413 yX7_hasPlace : Cond) ∈ lw_ok := lm2 (List.mem_of_getElem? (i := 160) (by decide +kernel)) rfl
theorem wd465 : (.methodLink RX11 128 yX7_cell : Cond) ∈ lw_ok := lm2 (List.mem_of_getElem? (i := 161) (by decide +kernel)) rfl
theorem wd466 : (.instanceMethod yX7_cell : Cond) ∈ lw_ok := lm2 (List.mem_of_getElem? (i := 162) (by decide +kernel)) rfl
theorem wd467 : (.selects RX7 yX7_cell yX7_cell : Cond) ∈ lw_ok := lm2 (List.mem_of_getElem? (i := 163) (by decide +kernel)) rfl
theorem wd468 : (.code yX7_cell cX7_cell 4 (some .int) : Cond) ∈ lw_ok := lm2 (List.mem_of_getElem? (i := 164) (by decide +kernel)) rfl
theorem wd469 : (.methodLink RX11 132 yX7_setCell : Cond) ∈ lw_ok := lm2 (List.mem_of_getElem? (i := 165) (by decide +kernel)) rfl
theorem wd470 : (.methodLink RX11 135 yX11_tell : Cond) ∈ lw_ok := lm2 (List.mem_of_getElem? (i := 166) (by decide +kernel)) rfl
theorem wd472 : (.instanceMethod yX11_tell : Cond) ∈ lw_ok := lm2 (List.mem_of_getElem? (i := 168) (by decide +kernel)) rfl
theorem wd473 : (.code yX11_tell cX11_tell 3 (some .int) : Cond) ∈ lw_ok := lm2 (List.mem_of_getElem? (i := 169) (by decide +kernel)) rfl
theorem wd474 : (.methodLink RL 23 yX11_at : Cond) ∈ lw_ok := lm2 (List.mem_of_getElem? (i := 170) (by decide +kernel)) rfl
theorem wd475 : (.instanceMethod yX11_at : Cond) ∈ lw_ok := lm2 (List.mem_of_getElem? (i := 171) (by decide +kernel)) rfl
theorem wd476 : (.selects RX11 yX11_at yX11_at : Cond) ∈ lw_ok := lm2 (List.mem_of_getElem? (i := 172) (by decide +kernel)) rfl
theorem wd477 : (.code yX11_at cX11_at 4 (some .int) : Cond) ∈ lw_ok := lm2 (List.mem_of_getElem? (i := 173) (by decide +kernel)) rfl
theorem wd478 : (.methodLink RL 27 yX11_tear : Cond) ∈ lw_ok := lm2 (List.mem_of_getElem? (i := 174) (by decide +kernel)) rfl
theorem wd479 : (.instanceMethod yX11_tear : Cond) ∈ lw_ok := lm2 (List.mem_of_getElem? (i := 175) (by decide +kernel)) rfl
theorem wd480 : (.selects RX11 yX11_tear yX11_tear : Cond) ∈ lw_ok := lm2 (List.mem_of_getElem? (i := 176) (by decide +kernel)) rfl
theorem wd481 : (.code yX11_tear cX11_tear 3 (some .int) : Cond) ∈ lw_ok := lm2 (List.mem_of_getElem? (i := 177) (by decide +kernel)) rfl
theorem wd482 : (.methodLink RX11 142 yX7_drop : Cond) ∈ lw_ok := lm2 (List.mem_of_getElem? (i := 178) (by decide +kernel)) rfl
theorem wd483 : (.instanceMethod yX7_drop : Cond) ∈ lw_ok := lm2 (List.mem_of_getElem? (i := 179) (by decide +kernel)) rfl
theorem wd484 : (.selects RX7 yX7_drop yX7_drop : Cond) ∈ lw_ok := lm2 (List.mem_of_getElem? (i := 180) (by decide +kernel)) rfl
theorem wd485 : (.code yX7_drop cX7_drop 2 (none : Option Jvm.ClassFile.FieldType) : Cond) ∈ lw_ok := lm2 (List.mem_of_getElem? (i := 181) (by decide +kernel)) rfl
theorem wd486 : (.methodLink RL 32 yX11_copy : Cond) ∈ lw_ok := lm2 (List.mem_of_getElem? (i := 182) (by decide +kernel)) rfl
theorem wd487 : (.instanceMethod yX11_copy : Cond) ∈ lw_ok := lm2 (List.mem_of_getElem? (i := 183) (by decide +kernel)) rfl
theorem wd488 : (.selects RX11 yX11_copy yX11_copy : Cond) ∈ lw_ok := lm2 (List.mem_of_getElem? (i := 184) (by decide +kernel)) rfl
theorem wd489 : (.code yX11_copy cX11_copy 6 (some .int) : Cond) ∈ lw_ok := lm2 (List.mem_of_getElem? (i := 185) (by decide +kernel)) rfl
theorem wd490 : (.methodLink RX11 149 yX7_hasSpan : Cond) ∈ lw_ok := lm2 (List.mem_of_getElem? (i := 186) (by decide +kernel)) rfl
theorem wd491 : (.instanceMethod yX7_hasSpan : Cond) ∈ lw_ok := lm2 (List.mem_of_getElem? (i := 187) (by decide +kernel)) rfl
theorem wd492 : (.selects RX7 yX7_hasSpan yX7_hasSpan : Cond) ∈ lw_ok := lm2 (List.mem_of_getElem? (i := 188) (by decide +kernel)) rfl
theorem wd493 : (.code yX7_hasSpan cX7_hasSpan 4 (some .boolean) : Cond) ∈ lw_ok := lm2 (List.mem_of_getElem? (i := 189) (by decide +kernel)) rfl
theorem wd494 : (.methodLink RX11 153 yX7_copySpan : Cond) ∈ lw_ok := lm2 (List.mem_of_getElem? (i := 190) (by decide +kernel)) rfl
theorem wd495 : (.instanceMethod yX7_copySpan : Cond) ∈ lw_ok := lm2 (List.mem_of_getElem? (i := 191) (by decide +kernel)) rfl
theorem wd496 : (.selects RX7 yX7_copySpan yX7_copySpan : Cond) ∈ lw_ok := lm2 (List.mem_of_getElem? (i := 192) (by decide +kernel)) rfl
theorem wd497 : (.code yX7_copySpan cX7_copySpan 9 (none : Option Jvm.ClassFile.FieldType) : Cond) ∈ lw_ok := lm2 (List.mem_of_getElem? (i := 193) (by decide +kernel)) rfl
theorem wd498 : (.methodLink RX7 40 yX7_cell : Cond) ∈ lw_ok := lm2 (List.mem_of_getElem? (i := 194) (by decide +kernel)) rfl
theorem wd499 : (.methodLink RL 37 yX11_mean : Cond) ∈ lw_ok := lm2 (List.mem_of_getElem? (i := 195) (by decide +kernel)) rfl
theorem wd500 : (.instanceMethod yX11_mean : Cond) ∈ lw_ok := lm2 (List.mem_of_getElem? (i := 196) (by decide +kernel)) rfl
theorem wd501 : (.selects RX11 yX11_mean yX11_mean : Cond) ∈ lw_ok := lm2 (List.mem_of_getElem? (i := 197) (by decide +kernel)) rfl
theorem wd502 : (.code yX11_mean cX11_mean 7 (some .int) : Cond) ∈ lw_ok := lm2 (List.mem_of_getElem? (i := 198) (by decide +kernel)) rfl
theorem wd503 : (.methodLink RX11 157 yX7_sizeOf : Cond) ∈ lw_ok := lm2 (List.mem_of_getElem? (i := 199) (by decide +kernel)) rfl
theorem wd504 : (.methodLink RL 41 yX11_text : Cond) ∈ lw_ok := lm2 (List.mem_of_getElem? (i := 200) (by decide +kernel)) rfl
theorem wd505 : (.instanceMethod yX11_text : Cond) ∈ lw_ok := lm2 (List.mem_of_getElem? (i := 201) (by decide +kernel)) rfl
theorem wd506 : (.selects RX11 yX11_text yX11_text : Cond) ∈ lw_ok := lm2 (List.mem_of_getElem? (i := 202) (by decide +kernel)) rfl
theorem wd507 : (.code yX11_text cX11_text 3 (some .int) : Cond) ∈ lw_ok := lm2 (List.mem_of_getElem? (i := 203) (by decide +kernel)) rfl
theorem wd508 : (.methodLink RL 45 yX11_put : Cond) ∈ lw_ok := lm2 (List.mem_of_getElem? (i := 204) (by decide +kernel)) rfl
theorem wd509 : (.instanceMethod yX11_put : Cond) ∈ lw_ok := lm2 (List.mem_of_getElem? (i := 205) (by decide +kernel)) rfl
theorem wd510 : (.selects RX11 yX11_put yX11_put : Cond) ∈ lw_ok := lm2 (List.mem_of_getElem? (i := 206) (by decide +kernel)) rfl
theorem wd511 : (.code yX11_put cX11_put 6 (some .int) : Cond) ∈ lw_ok := lm2 (List.mem_of_getElem? (i := 207) (by decide +kernel)) rfl
theorem wd512 : (.methodLink RL 49 yX11_fault : Cond) ∈ lw_ok := lm2 (List.mem_of_getElem? (i := 208) (by decide +kernel)) rfl
theorem wd513 : (.instanceMethod yX11_fault : Cond) ∈ lw_ok := lm2 (List.mem_of_getElem? (i := 209) (by decide +kernel)) rfl
theorem wd514 : (.selects RX11 yX11_fault yX11_fault : Cond) ∈ lw_ok := lm2 (List.mem_of_getElem? (i := 210) (by decide +kernel)) rfl
theorem wd515 : (.code yX11_fault cX11_fault 3 (some .int) : Cond) ∈ lw_ok := lm2 (List.mem_of_getElem? (i := 211) (by decide +kernel)) rfl
theorem wd516 : (.methodLink RX11 160 yX1_read : Cond) ∈ lw_ok := lm2 (List.mem_of_getElem? (i := 212) (by decide +kernel)) rfl
theorem wd517 : (.instanceMethod yX1_read : Cond) ∈ lw_ok := lm2 (List.mem_of_getElem? (i := 213) (by decide +kernel)) rfl
theorem wd518 : (.selects RX1 yX1_read yX1_read : Cond) ∈ lw_ok := lm2 (List.mem_of_getElem? (i := 214) (by decide +kernel)) rfl
theorem wd519 : (.code yX1_read cX1_read 8 (some .int) : Cond) ∈ lw_ok := lm2 (List.mem_of_getElem? (i := 215) (by decide +kernel)) rfl
theorem wd520 : (.methodLink RX1 47 yX7_sizeOf : Cond) ∈ lw_ok := lm2 (List.mem_of_getElem? (i := 216) (by decide +kernel)) rfl
theorem wd521 : (.methodLink RX1 52 yX7_cell : Cond) ∈ lw_ok := lm2 (List.mem_of_getElem? (i := 217) (by decide +kernel)) rfl
theorem wd522 : (.methodLink RX1 55 yX1_kindOf : Cond) ∈ lw_ok := lm2 (List.mem_of_getElem? (i := 218) (by decide +kernel)) rfl
theorem wd523 : (.static yX1_kindOf : Cond) ∈ lw_ok := lm2 (List.mem_of_getElem? (i := 219) (by decide +kernel)) rfl
theorem wd524 : (.code yX1_kindOf cX1_kindOf 2 (some .int) : Cond) ∈ lw_ok := lm2 (List.mem_of_getElem? (i := 220) (by decide +kernel)) rfl
theorem wd527 : (.methodLink RX1 58 yX1_readDesk : Cond) ∈ lw_ok := lm2 (List.mem_of_getElem? (i := 223) (by decide +kernel)) rfl
theorem wd528 : (.instanceMethod yX1_readDesk : Cond) ∈ lw_ok := lm2 (List.mem_of_getElem? (i := 224) (by decide +kernel)) rfl
theorem wd529 : (.selects RX1 yX1_readDesk yX1_readDesk : Cond) ∈ lw_ok := lm2 (List.mem_of_getElem? (i := 225) (by decide +kernel)) rfl
theorem wd530 : (.code yX1_readDesk cX1_readDesk 8 (some .int) : Cond) ∈ lw_ok := lm2 (List.mem_of_getElem? (i := 226) (by decide +kernel)) rfl
theorem wd531 : (.methodLink RX1 65 yX1_setFact : Cond) ∈ lw_ok := lm2 (List.mem_of_getElem? (i := 227) (by decide +kernel)) rfl
theorem wd532 : (.instanceMethod yX1_setFact : Cond) ∈ lw_ok := lm2 (List.mem_of_getElem? (i := 228) (by decide +kernel)) rfl
theorem wd533 : (.selects RX1 yX1_setFact yX1_setFact : Cond) ∈ lw_ok := lm2 (List.mem_of_getElem? (i := 229) (by decide +kernel)) rfl
theorem wd534 : (.code yX1_setFact cX1_setFact 5 (none : Option Jvm.ClassFile.FieldType) : Cond) ∈ lw_ok := lm2 (List.mem_of_getElem? (i := 230) (by decide +kernel)) rfl
theorem wd535 : (.methodLink RX1 62 yX1_figuresOf : Cond) ∈ lw_ok := lm2 (List.mem_of_getElem? (i := 231) (by decide +kernel)) rfl
theorem wd536 : (.static yX1_figuresOf : Cond) ∈ lw_ok := lm2 (List.mem_of_getElem? (i := 232) (by decide +kernel)) rfl
theorem wd537 : (.code yX1_figuresOf cX1_figuresOf 1 (some .int) : Cond) ∈ lw_ok := lm2 (List.mem_of_getElem? (i := 233) (by decide +kernel)) rfl
theorem wd538 : (.methodLink RX1 69 yX7_hasPlace : Cond) ∈ lw_ok := lm2 (List.mem_of_getElem? (i := 234) (by decide +kernel)) rfl
theorem wd539 : (.methodLink RX1 72 yX1_leastFigure : Cond) ∈ lw_ok := lm2 (List.mem_of_getElem? (i := 235) (by decide +kernel)) rfl
theorem wd540 : (.static yX1_leastFigure : Cond) ∈ lw_ok := lm2 (List.mem_of_getElem? (i := 236) (by decide +kernel)) rfl
theorem wd541 : (.code yX1_leastFigure cX1_leastFigure 3 (some .int) : Cond) ∈ lw_ok := lm2 (List.mem_of_getElem? (i := 237) (by decide +kernel)) rfl
theorem wd542 : (.methodLink RL 53 yX11_office : Cond) ∈ lw_ok := lm2 (List.mem_of_getElem? (i := 238) (by decide +kernel)) rfl
theorem wd543 : (.instanceMethod yX11_office : Cond) ∈ lw_ok := lm2 (List.mem_of_getElem? (i := 239) (by decide +kernel)) rfl
theorem wd544 : (.selects RX11 yX11_office yX11_office : Cond) ∈ lw_ok := lm3 (List.mem_of_getElem? (i := 0) (by decide +kernel)) rfl
theorem wd545 : (.code yX11_office cX11_office 4 (some .int) : Cond) ∈ lw_ok := lm3 (List.mem_of_getElem? (i := 1) (by decide +kernel)) rfl
theorem wd546 : (.methodLink RX11 163 yX6_reset : Cond) ∈ lw_ok := lm3 (List.mem_of_getElem? (i := 2) (by decide +kernel)) rfl
theorem wd547 : (.instanceMethod yX6_reset : Cond) ∈ lw_ok := lm3 (List.mem_of_getElem? (i := 3) (by decide +kernel)) rfl
theorem wd548 : (.selects RX6 yX6_reset yX6_reset : Cond) ∈ lw_ok := lm3 (List.mem_of_getElem? (i := 4) (by decide +kernel)) rfl
theorem wd549 : (.code yX6_reset cX6_reset 1 (none : Option Jvm.ClassFile.FieldType) : Cond) ∈ lw_ok := lm3 (List.mem_of_getElem? (i := 5) (by decide +kernel)) rfl
theorem wd550 : (.methodLink RX6 53 yX6_beginAt : Cond) ∈ lw_ok := lm3 (List.mem_of_getElem? (i := 6) (by decide +kernel)) rfl
theorem wd551 : (.instanceMethod yX6_beginAt : Cond) ∈ lw_ok := lm3 (List.mem_of_getElem? (i := 7) (by decide +kernel)) rfl
theorem wd552 : (.selects RX6 yX6_beginAt yX6_beginAt : Cond) ∈ lw_ok := lm3 (List.mem_of_getElem? (i := 8) (by decide +kernel)) rfl
theorem wd553 : (.code yX6_beginAt cX6_beginAt 3 (none : Option Jvm.ClassFile.FieldType) : Cond) ∈ lw_ok := lm3 (List.mem_of_getElem? (i := 9) (by decide +kernel)) rfl
theorem wd554 : (.methodLink RX11 169 yX11_forgetKept : Cond) ∈ lw_ok := lm3 (List.mem_of_getElem? (i := 10) (by decide +kernel)) rfl
theorem wd556 : (.instanceMethod yX11_forgetKept : Cond) ∈ lw_ok := lm3 (List.mem_of_getElem? (i := 12) (by decide +kernel)) rfl
theorem wd557 : (.code yX11_forgetKept cX11_forgetKept 3 (none : Option Jvm.ClassFile.FieldType) : Cond) ∈ lw_ok := lm3 (List.mem_of_getElem? (i := 13) (by decide +kernel)) rfl
theorem wd558 : (.methodLink RX11 253 yX11_keptAt : Cond) ∈ lw_ok := lm3 (List.mem_of_getElem? (i := 14) (by decide +kernel)) rfl
theorem wd560 : (.instanceMethod yX11_keptAt : Cond) ∈ lw_ok := lm3 (List.mem_of_getElem? (i := 16) (by decide +kernel)) rfl
theorem wd561 : (.code yX11_keptAt cX11_keptAt 2 (some (.object "EnvelopeCard$Round")) : Cond) ∈ lw_ok := lm3 (List.mem_of_getElem? (i := 17) (by decide +kernel)) rfl
theorem wd562 : (.methodLink RL 57 yX11_desk : Cond) ∈ lw_ok := lm3 (List.mem_of_getElem? (i := 18) (by decide +kernel)) rfl
theorem wd563 : (.instanceMethod yX11_desk : Cond) ∈ lw_ok := lm3 (List.mem_of_getElem? (i := 19) (by decide +kernel)) rfl
theorem wd564 : (.selects RX11 yX11_desk yX11_desk : Cond) ∈ lw_ok := lm3 (List.mem_of_getElem? (i := 20) (by decide +kernel)) rfl
theorem wd565 : (.code yX11_desk cX11_desk 3 (some .int) : Cond) ∈ lw_ok := lm3 (List.mem_of_getElem? (i := 21) (by decide +kernel)) rfl
theorem wd566 : (.methodLink RX11 173 yX1_names : Cond) ∈ lw_ok := lm3 (List.mem_of_getElem? (i := 22) (by decide +kernel)) rfl
theorem wd567 : (.instanceMethod yX1_names : Cond) ∈ lw_ok := lm3 (List.mem_of_getElem? (i := 23) (by decide +kernel)) rfl
theorem wd568 : (.selects RX1 yX1_names yX1_names : Cond) ∈ lw_ok := lm3 (List.mem_of_getElem? (i := 24) (by decide +kernel)) rfl
theorem wd569 : (.code yX1_names cX1_names 2 (some .boolean) : Cond) ∈ lw_ok := lm3 (List.mem_of_getElem? (i := 25) (by decide +kernel)) rfl
theorem wd570 : (.methodLink RX11 174 yX1_fact : Cond) ∈ lw_ok := lm3 (List.mem_of_getElem? (i := 26) (by decide +kernel)) rfl
theorem wd571 : (.instanceMethod yX1_fact : Cond) ∈ lw_ok := lm3 (List.mem_of_getElem? (i := 27) (by decide +kernel)) rfl
theorem wd572 : (.selects RX1 yX1_fact yX1_fact : Cond) ∈ lw_ok := lm3 (List.mem_of_getElem? (i := 28) (by decide +kernel)) rfl
theorem wd573 : (.code yX1_fact cX1_fact 4 (some .int) : Cond) ∈ lw_ok := lm3 (List.mem_of_getElem? (i := 29) (by decide +kernel)) rfl
theorem wd574 : (.methodLink RL 61 yX11_mark : Cond) ∈ lw_ok := lm3 (List.mem_of_getElem? (i := 30) (by decide +kernel)) rfl
theorem wd575 : (.instanceMethod yX11_mark : Cond) ∈ lw_ok := lm3 (List.mem_of_getElem? (i := 31) (by decide +kernel)) rfl
theorem wd576 : (.selects RX11 yX11_mark yX11_mark : Cond) ∈ lw_ok := lm3 (List.mem_of_getElem? (i := 32) (by decide +kernel)) rfl
theorem wd577 : (.code yX11_mark cX11_mark 3 (some .int) : Cond) ∈ lw_ok := lm3 (List.mem_of_getElem? (i := 33) (by decide +kernel)) rfl
theorem wd578 : (.methodLink RX11 177 yX1_isOfKind : Cond) ∈ lw_ok := lm3 (List.mem_of_getElem? (i := 34) (by decide +kernel)) rfl
theorem wd579 : (.instanceMethod yX1_isOfKind : Cond) ∈ lw_ok := lm3 (List.mem_of_getElem? (i := 35) (by decide +kernel)) rfl
theorem wd580 : (.selects RX1 yX1_isOfKind yX1_isOfKind : Cond) ∈ lw_ok := lm3 (List.mem_of_getElem? (i := 36) (by decide +kernel)) rfl
theorem wd581 : (.code yX1_isOfKind cX1_isOfKind 4 (some .boolean) : Cond) ∈ lw_ok := lm3 (List.mem_of_getElem? (i := 37) (by decide +kernel)) rfl
theorem wd582 : (.methodLink RX1 19 yX1_fact : Cond) ∈ lw_ok := lm3 (List.mem_of_getElem? (i := 38) (by decide +kernel)) rfl
theorem wd583 : (.methodLink RX11 181 yX1_hoursInHeap : Cond) ∈ lw_ok := lm3 (List.mem_of_getElem? (i := 39) (by decide +kernel)) rfl
theorem wd584 : (.instanceMethod yX1_hoursInHeap : Cond) ∈ lw_ok := lm3 (List.mem_of_getElem? (i := 40) (by decide +kernel)) rfl
theorem wd585 : (.selects RX1 yX1_hoursInHeap yX1_hoursInHeap : Cond) ∈ lw_ok := lm3 (List.mem_of_getElem? (i := 41) (by decide +kernel)) rfl
theorem wd586 : (.code yX1_hoursInHeap cX1_hoursInHeap 3 (some .int) : Cond) ∈ lw_ok := lm3 (List.mem_of_getElem? (i := 42) (by decide +kernel)) rfl
theorem wd587 : (.methodLink RX1 27 yX1_heapOf : Cond) ∈ lw_ok := lm3 (List.mem_of_getElem? (i := 43) (by decide +kernel)) rfl
theorem wd588 : (.instanceMethod yX1_heapOf : Cond) ∈ lw_ok := lm3 (List.mem_of_getElem? (i := 44) (by decide +kernel)) rfl
theorem wd589 : (.selects RX1 yX1_heapOf yX1_heapOf : Cond) ∈ lw_ok := lm3 (List.mem_of_getElem? (i := 45) (by decide +kernel)) rfl
theorem wd590 : (.code yX1_heapOf cX1_heapOf 2 (some .int) : Cond) ∈ lw_ok := lm3 (List.mem_of_getElem? (i := 46) (by decide +kernel)) rfl
theorem wd591 : (.methodLink RX11 187 yX1_isAway : Cond) ∈ lw_ok := lm3 (List.mem_of_getElem? (i := 47) (by decide +kernel)) rfl
theorem wd592 : (.instanceMethod yX1_isAway : Cond) ∈ lw_ok := lm3 (List.mem_of_getElem? (i := 48) (by decide +kernel)) rfl
theorem wd593 : (.selects RX1 yX1_isAway yX1_isAway : Cond) ∈ lw_ok := lm3 (List.mem_of_getElem? (i := 49) (by decide +kernel)) rfl
theorem wd594 : (.code yX1_isAway cX1_isAway 3 (some .boolean) : Cond) ∈ lw_ok := lm3 (List.mem_of_getElem? (i := 50) (by decide +kernel)) rfl
theorem wd595 : (.methodLink RX11 190 yX0_layFrom : Cond) ∈ lw_ok := lm3 (List.mem_of_getElem? (i := 51) (by decide +kernel)) rfl
theorem wd596 : (.instanceMethod yX0_layFrom : Cond) ∈ lw_ok := lm3 (List.mem_of_getElem? (i := 52) (by decide +kernel)) rfl
theorem wd597 : (.selects RX0 yX0_layFrom yX0_layFrom : Cond) ∈ lw_ok := lm3 (List.mem_of_getElem? (i := 53) (by decide +kernel)) rfl
theorem wd598 : (.code yX0_layFrom cX0_layFrom 3 (none : Option Jvm.ClassFile.FieldType) : Cond) ∈ lw_ok := lm3 (List.mem_of_getElem? (i := 54) (by decide +kernel)) rfl
theorem wd599 : (.methodLink RX0 15 yX6_isCrossed : Cond) ∈ lw_ok := lm3 (List.mem_of_getElem? (i := 55) (by decide +kernel)) rfl
theorem wd600 : (.instanceMethod yX6_isCrossed : Cond) ∈ lw_ok := lm3 (List.mem_of_getElem? (i := 56) (by decide +kernel)) rfl
theorem wd601 : (.selects RX6 yX6_isCrossed yX6_isCrossed : Cond) ∈ lw_ok := lm3 (List.mem_of_getElem? (i := 57) (by decide +kernel)) rfl
theorem wd602 : (.code yX6_isCrossed cX6_isCrossed 2 (some .boolean) : Cond) ∈ lw_ok := lm3 (List.mem_of_getElem? (i := 58) (by decide +kernel)) rfl
theorem wd603 : (.methodLink RX0 21 yX6_wordOf : Cond) ∈ lw_ok := lm3 (List.mem_of_getElem? (i := 59) (by decide +kernel)) rfl
theorem wd604 : (.instanceMethod yX6_wordOf : Cond) ∈ lw_ok := lm3 (List.mem_of_getElem? (i := 60) (by decide +kernel)) rfl
theorem wd605 : (.selects RX6 yX6_wordOf yX6_wordOf : Cond) ∈ lw_ok := lm3 (List.mem_of_getElem? (i := 61) (by decide +kernel)) rfl
theorem wd606 : (.code yX6_wordOf cX6_wordOf 2 (some .int) : Cond) ∈ lw_ok := lm3 (List.mem_of_getElem? (i := 62) (by decide +kernel)) rfl
theorem wd607 : (.methodLink RX6 61 yX6_isCrossed : Cond) ∈ lw_ok := lm3 (List.mem_of_getElem? (i := 63) (by decide +kernel)) rfl
theorem wd608 : (.methodLink RX0 25 yX0_add : Cond) ∈ lw_ok := lm3 (List.mem_of_getElem? (i := 64) (by decide +kernel)) rfl
theorem wd609 : (.instanceMethod yX0_add : Cond) ∈ lw_ok := lm3 (List.mem_of_getElem? (i := 65) (by decide +kernel)) rfl
theorem wd610 : (.selects RX0 yX0_add yX0_add : Cond) ∈ lw_ok := lm3 (List.mem_of_getElem? (i := 66) (by decide +kernel)) rfl
theorem wd611 : (.code yX0_add cX0_add 2 (none : Option Jvm.ClassFile.FieldType) : Cond) ∈ lw_ok := lm3 (List.mem_of_getElem? (i := 67) (by decide +kernel)) rfl
theorem wd612 : (.methodLink RX11 194 yX0_wordBy : Cond) ∈ lw_ok := lm3 (List.mem_of_getElem? (i := 68) (by decide +kernel)) rfl
theorem wd613 : (.instanceMethod yX0_wordBy : Cond) ∈ lw_ok := lm3 (List.mem_of_getElem? (i := 69) (by decide +kernel)) rfl
theorem wd614 : (.selects RX0 yX0_wordBy yX0_wordBy : Cond) ∈ lw_ok := lm3 (List.mem_of_getElem? (i := 70) (by decide +kernel)) rfl
theorem wd615 : (.code yX0_wordBy cX0_wordBy 4 (some .int) : Cond) ∈ lw_ok := lm3 (List.mem_of_getElem? (i := 71) (by decide +kernel)) rfl
theorem wd616 : (.methodLink RX0 29 yX1_isOfKind : Cond) ∈ lw_ok := lm3 (List.mem_of_getElem? (i := 72) (by decide +kernel)) rfl
theorem wd617 : (.methodLink RX0 35 yX0_mostOften : Cond) ∈ lw_ok := lm3 (List.mem_of_getElem? (i := 73) (by decide +kernel)) rfl
theorem wd618 : (.instanceMethod yX0_mostOften : Cond) ∈ lw_ok := lm3 (List.mem_of_getElem? (i := 74) (by decide +kernel)) rfl
theorem wd619 : (.selects RX0 yX0_mostOften yX0_mostOften : Cond) ∈ lw_ok := lm3 (List.mem_of_getElem? (i := 75) (by decide +kernel)) rfl
theorem wd620 : (.code yX0_mostOften cX0_mostOften 4 (some .int) : Cond) ∈ lw_ok := lm3 (List.mem_of_getElem? (i := 76) (by decide +kernel)) rfl
theorem wd621 : (.methodLink RX0 39 yX1_fact : Cond) ∈ lw_ok := lm3 (List.mem_of_getElem? (i := 77) (by decide +kernel)) rfl
theorem wd622 : (.methodLink RX11 198 yX5_layFrom : Cond) ∈ lw_ok := lm3 (List.mem_of_getElem? (i := 78) (by decide +kernel)) rfl
theorem wd623 : (.instanceMethod yX5_layFrom : Cond) ∈ lw_ok := lm3 (List.mem_of_getElem? (i := 79) (by decide +kernel)) rfl
theorem wd624 : (.selects RX5 yX5_layFrom yX5_layFrom : Cond) ∈ lw_ok := lm3 (List.mem_of_getElem? (i := 80) (by decide +kernel)) rfl
theorem wd625 : (.code yX5_layFrom cX5_layFrom 3 (none : Option Jvm.ClassFile.FieldType) : Cond) ∈ lw_ok := lm3 (List.mem_of_getElem? (i := 81) (by decide +kernel)) rfl
theorem wd626 : (.methodLink RX5 38 yX5_copyTermsFrom : Cond) ∈ lw_ok := lm3 (List.mem_of_getElem? (i := 82) (by decide +kernel)) rfl
theorem wd627 : (.instanceMethod yX5_copyTermsFrom : Cond) ∈ lw_ok := lm3 (List.mem_of_getElem? (i := 83) (by decide +kernel)) rfl
theorem wd628 : (.selects RX5 yX5_copyTermsFrom yX5_copyTermsFrom : Cond) ∈ lw_ok := lm3 (List.mem_of_getElem? (i := 84) (by decide +kernel)) rfl
theorem wd629 : (.code yX5_copyTermsFrom cX5_copyTermsFrom 2 (none : Option Jvm.ClassFile.FieldType) : Cond) ∈ lw_ok := lm3 (List.mem_of_getElem? (i := 85) (by decide +kernel)) rfl
theorem wd630 : (.methodLink RX5 35 yX5_clear : Cond) ∈ lw_ok := lm3 (List.mem_of_getElem? (i := 86) (by decide +kernel)) rfl
theorem wd631 : (.instanceMethod yX5_clear : Cond) ∈ lw_ok := lm3 (List.mem_of_getElem? (i := 87) (by decide +kernel)) rfl
theorem wd632 : (.selects RX5 yX5_clear yX5_clear : Cond) ∈ lw_ok := lm3 (List.mem_of_getElem? (i := 88) (by decide +kernel)) rfl
theorem wd633 : (.code yX5_clear cX5_clear 1 (none : Option Jvm.ClassFile.FieldType) : Cond) ∈ lw_ok := lm3 (List.mem_of_getElem? (i := 89) (by decide +kernel)) rfl
theorem wd634 : (.methodLink RX5 42 yX6_isCrossed : Cond) ∈ lw_ok := lm3 (List.mem_of_getElem? (i := 90) (by decide +kernel)) rfl
theorem wd635 : (.methodLink RX5 46 yX6_giftOf : Cond) ∈ lw_ok := lm3 (List.mem_of_getElem? (i := 91) (by decide +kernel)) rfl
theorem wd636 : (.instanceMethod yX6_giftOf : Cond) ∈ lw_ok := lm3 (List.mem_of_getElem? (i := 92) (by decide +kernel)) rfl
theorem wd637 : (.selects RX6 yX6_giftOf yX6_giftOf : Cond) ∈ lw_ok := lm3 (List.mem_of_getElem? (i := 93) (by decide +kernel)) rfl
theorem wd638 : (.code yX6_giftOf cX6_giftOf 2 (some .int) : Cond) ∈ lw_ok := lm3 (List.mem_of_getElem? (i := 94) (by decide +kernel)) rfl
theorem wd639 : (.methodLink RX5 50 yX5_take : Cond) ∈ lw_ok := lm3 (List.mem_of_getElem? (i := 95) (by decide +kernel)) rfl
theorem wd640 : (.instanceMethod yX5_take : Cond) ∈ lw_ok := lm3 (List.mem_of_getElem? (i := 96) (by decide +kernel)) rfl
theorem wd641 : (.selects RX5 yX5_take yX5_take : Cond) ∈ lw_ok := lm3 (List.mem_of_getElem? (i := 97) (by decide +kernel)) rfl
theorem wd642 : (.code yX5_take cX5_take 2 (none : Option Jvm.ClassFile.FieldType) : Cond) ∈ lw_ok := lm3 (List.mem_of_getElem? (i := 98) (by decide +kernel)) rfl
theorem wd643 : (.methodLink RX11 199 yX5_wouldGive : Cond) ∈ lw_ok := lm3 (List.mem_of_getElem? (i := 99) (by decide +kernel)) rfl
theorem wd644 : (.instanceMethod yX5_wouldGive : Cond) ∈ lw_ok := lm3 (List.mem_of_getElem? (i := 100) (by decide +kernel)) rfl
theorem wd645 : (.selects RX5 yX5_wouldGive yX5_wouldGive : Cond) ∈ lw_ok := lm3 (List.mem_of_getElem? (i := 101) (by decide +kernel)) rfl
theorem wd646 : (.code yX5_wouldGive cX5_wouldGive 4 (some .int) : Cond) ∈ lw_ok := lm3 (List.mem_of_getElem? (i := 102) (by decide +kernel)) rfl
theorem wd647 : (.methodLink RX5 64 yX5_ownOf : Cond) ∈ lw_ok := lm3 (List.mem_of_getElem? (i := 103) (by decide +kernel)) rfl
theorem wd648 : (.instanceMethod yX5_ownOf : Cond) ∈ lw_ok := lm3 (List.mem_of_getElem? (i := 104) (by decide +kernel)) rfl
theorem wd649 : (.selects RX5 yX5_ownOf yX5_ownOf : Cond) ∈ lw_ok := lm3 (List.mem_of_getElem? (i := 105) (by decide +kernel)) rfl
theorem wd650 : (.code yX5_ownOf cX5_ownOf 4 (some .int) : Cond) ∈ lw_ok := lm3 (List.mem_of_getElem? (i := 106) (by decide +kernel)) rfl
theorem wd651 : (.methodLink RX5 73 yX1_fact : Cond) ∈ lw_ok := lm3 (List.mem_of_getElem? (i := 107) (by decide +kernel)) rfl
theorem wd652 : (.methodLink RX5 67 Lib.Math.max.name : Cond) ∈ lw_ok := lm3 (List.mem_of_getElem? (i := 108) (by decide +kernel)) rfl
theorem wd653 : (.methodLink RL 65 yX11_law : Cond) ∈ lw_ok := lm3 (List.mem_of_getElem? (i := 109) (by decide +kernel)) rfl
theorem wd654 : (.instanceMethod yX11_law : Cond) ∈ lw_ok := lm3 (List.mem_of_getElem? (i := 110) (by decide +kernel)) rfl
theorem wd655 : (.selects RX11 yX11_law yX11_law : Cond) ∈ lw_ok := lm3 (List.mem_of_getElem? (i := 111) (by decide +kernel)) rfl
theorem wd656 : (.code yX11_law cX11_law 3 (some .int) : Cond) ∈ lw_ok := lm3 (List.mem_of_getElem? (i := 112) (by decide +kernel)) rfl
theorem wd657 : (.methodLink RL 69 yX11_name : Cond) ∈ lw_ok := lm3 (List.mem_of_getElem? (i := 113) (by decide +kernel)) rfl
theorem wd658 : (.instanceMethod yX11_name : Cond) ∈ lw_ok := lm3 (List.mem_of_getElem? (i := 114) (by decide +kernel)) rfl
theorem wd659 : (.selects RX11 yX11_name yX11_name : Cond) ∈ lw_ok := lm3 (List.mem_of_getElem? (i := 115) (by decide +kernel)) rfl
theorem wd660 : (.code yX11_name cX11_name 3 (some .int) : Cond) ∈ lw_ok := lm3 (List.mem_of_getElem? (i := 116) (by decide +kernel)) rfl
theorem wd661 : (.methodLink RL 73 yX11_link : Cond) ∈ lw_ok := lm3 (List.mem_of_getElem? (i := 117) (by decide +kernel)) rfl
theorem wd662 : (.instanceMethod yX11_link : Cond) ∈ lw_ok := lm3 (List.mem_of_getElem? (i := 118) (by decide +kernel)) rfl
theorem wd663 : (.selects RX11 yX11_link yX11_link : Cond) ∈ lw_ok := lm3 (List.mem_of_getElem? (i := 119) (by decide +kernel)) rfl
theorem wd664 : (.code yX11_link cX11_link 3 (some .int) : Cond) ∈ lw_ok := lm3 (List.mem_of_getElem? (i := 120) (by decide +kernel)) rfl
theorem wd665 : (.methodLink RL 77 yX11_begin : Cond) ∈ lw_ok := lm3 (List.mem_of_getElem? (i := 121) (by decide +kernel)) rfl
theorem wd666 : (.instanceMethod yX11_begin : Cond) ∈ lw_ok := lm3 (List.mem_of_getElem? (i := 122) (by decide +kernel)) rfl
theorem wd667 : (.selects RX11 yX11_begin yX11_begin : Cond) ∈ lw_ok := lm3 (List.mem_of_getElem? (i := 123) (by decide +kernel)) rfl
theorem wd668 : (.code yX11_begin cX11_begin 3 (some .int) : Cond) ∈ lw_ok := lm3 (List.mem_of_getElem? (i := 124) (by decide +kernel)) rfl
theorem wd669 : (.methodLink RX11 211 yX6_beginAt : Cond) ∈ lw_ok := lm3 (List.mem_of_getElem? (i := 125) (by decide +kernel)) rfl
theorem wd670 : (.methodLink RL 81 yX11_go : Cond) ∈ lw_ok := lm3 (List.mem_of_getElem? (i := 126) (by decide +kernel)) rfl
theorem wd671 : (.instanceMethod yX11_go : Cond) ∈ lw_ok := lm3 (List.mem_of_getElem? (i := 127) (by decide +kernel)) rfl
theorem wd672 : (.selects RX11 yX11_go yX11_go : Cond) ∈ lw_ok := lm3 (List.mem_of_getElem? (i := 128) (by decide +kernel)) rfl
theorem wd673 : (.code yX11_go cX11_go 6 (some .int) : Cond) ∈ lw_ok := lm3 (List.mem_of_getElem? (i := 129) (by decide +kernel)) rfl
theorem wd674 : (.constantLong RX11 214 (2147483647) : Cond) ∈ lw_ok := lm3 (List.mem_of_getElem? (i := 130) (by decide +kernel)) rfl
theorem wd675 : (.methodLink RX11 220 yX11_passOneHour : Cond) ∈ lw_ok := lm3 (List.mem_of_getElem? (i := 131) (by decide +kernel)) rfl
theorem wd677 : (.instanceMethod yX11_passOneHour : Cond) ∈ lw_ok := lm3 (List.mem_of_getElem? (i := 133) (by decide +kernel)) rfl
theorem wd678 : (.code yX11_passOneHour cX11_passOneHour 5 (some .long) : Cond) ∈ lw_ok := lm3 (List.mem_of_getElem? (i := 134) (by decide +kernel)) rfl
theorem wd679 : (.methodLink RX11 423 yX9_passHour : Cond) ∈ lw_ok := lm3 (List.mem_of_getElem? (i := 135) (by decide +kernel)) rfl
theorem wd680 : (.instanceMethod yX9_passHour : Cond) ∈ lw_ok := lm3 (List.mem_of_getElem? (i := 136) (by decide +kernel)) rfl
theorem wd681 : (.selects RX9 yX9_passHour yX9_passHour : Cond) ∈ lw_ok := lm3 (List.mem_of_getElem? (i := 137) (by decide +kernel)) rfl
theorem wd682 : (.code yX9_passHour cX9_passHour 7 (none : Option Jvm.ClassFile.FieldType) : Cond) ∈ lw_ok := lm3 (List.mem_of_getElem? (i := 138) (by decide +kernel)) rfl
theorem wd683 : (.methodLink RX9 31 yX1_isAway : Cond) ∈ lw_ok := lm3 (List.mem_of_getElem? (i := 139) (by decide +kernel)) rfl
theorem wd684 : (.methodLink RX9 37 yX9_signHere : Cond) ∈ lw_ok := lm3 (List.mem_of_getElem? (i := 140) (by decide +kernel)) rfl
theorem wd685 : (.instanceMethod yX9_signHere : Cond) ∈ lw_ok := lm3 (List.mem_of_getElem? (i := 141) (by decide +kernel)) rfl
theorem wd686 : (.selects RX9 yX9_signHere yX9_signHere : Cond) ∈ lw_ok := lm3 (List.mem_of_getElem? (i := 142) (by decide +kernel)) rfl
theorem wd687 : (.code yX9_signHere cX9_signHere 1 (none : Option Jvm.ClassFile.FieldType) : Cond) ∈ lw_ok := lm3 (List.mem_of_getElem? (i := 143) (by decide +kernel)) rfl
theorem wd688 : (.methodLink RX9 40 yX1_nextOf : Cond) ∈ lw_ok := lm3 (List.mem_of_getElem? (i := 144) (by decide +kernel)) rfl
theorem wd689 : (.instanceMethod yX1_nextOf : Cond) ∈ lw_ok := lm3 (List.mem_of_getElem? (i := 145) (by decide +kernel)) rfl
theorem wd690 : (.selects RX1 yX1_nextOf yX1_nextOf : Cond) ∈ lw_ok := lm3 (List.mem_of_getElem? (i := 146) (by decide +kernel)) rfl
theorem wd691 : (.code yX1_nextOf cX1_nextOf 9 (some .int) : Cond) ∈ lw_ok := lm3 (List.mem_of_getElem? (i := 147) (by decide +kernel)) rfl
theorem wd692 : (.methodLink RX1 31 yX1_all : Cond) ∈ lw_ok := lm3 (List.mem_of_getElem? (i := 148) (by decide +kernel)) rfl
theorem wd693 : (.instanceMethod yX1_all : Cond) ∈ lw_ok := lm3 (List.mem_of_getElem? (i := 149) (by decide +kernel)) rfl
theorem wd694 : (.selects RX1 yX1_all yX1_all : Cond) ∈ lw_ok := lm3 (List.mem_of_getElem? (i := 150) (by decide +kernel)) rfl
theorem wd695 : (.code yX1_all cX1_all 1 (some .int) : Cond) ∈ lw_ok := lm3 (List.mem_of_getElem? (i := 151) (by decide +kernel)) rfl
theorem wd696 : (.methodLink RX1 35 yX1_isAway : Cond) ∈ lw_ok := lm3 (List.mem_of_getElem? (i := 152) (by decide +kernel)) rfl
theorem wd697 : (.methodLink RX1 38 yX1_rankOf : Cond) ∈ lw_ok := lm3 (List.mem_of_getElem? (i := 153) (by decide +kernel)) rfl
theorem wd698 : (.static yX1_rankOf : Cond) ∈ lw_ok := lm3 (List.mem_of_getElem? (i := 154) (by decide +kernel)) rfl
theorem wd699 : (.code yX1_rankOf cX1_rankOf 4 (some .int) : Cond) ∈ lw_ok := lm3 (List.mem_of_getElem? (i := 155) (by decide +kernel)) rfl
theorem wd700 : (.methodLink RX1 42 Lib.Math.abs.name : Cond) ∈ lw_ok := lm3 (List.mem_of_getElem? (i := 156) (by decide +kernel)) rfl
theorem wd701 : (.static Lib.Math.abs.name : Cond) ∈ lw_ok := lm3 (List.mem_of_getElem? (i := 157) (by decide +kernel)) rfl
theorem wd702 : (.code Lib.Math.abs.name Lib.Math.abs.code 1 (some .int) : Cond) ∈ lw_ok := lm3 (List.mem_of_getElem? (i := 158) (by decide +kernel)) rfl
theorem wd703 : (.methodLink RX9 44 yX1_isOfKind : Cond) ∈ lw_ok := lm3 (List.mem_of_getElem? (i := 159) (by decide +kernel)) rfl
theorem wd704 : (.methodLink RX9 47 yX1_heapOf : Cond) ∈ lw_ok := lm3 (List.mem_of_getElem? (i := 160) (by decide +kernel)) rfl
theorem wd705 : (.methodLink RX11 430 yX9_signerAt : Cond) ∈ lw_ok := lm3 (List.mem_of_getElem? (i := 161) (by decide +kernel)) rfl
theorem wd706 : (.instanceMethod yX9_signerAt : Cond) ∈ lw_ok := lm3 (List.mem_of_getElem? (i := 162) (by decide +kernel)) rfl
theorem wd707 : (.selects RX9 yX9_signerAt yX9_signerAt : Cond) ∈ lw_ok := lm3 (List.mem_of_getElem? (i := 163) (by decide +kernel)) rfl
theorem wd708 : (.code yX9_signerAt cX9_signerAt 2 (some .int) : Cond) ∈ lw_ok := lm3 (List.mem_of_getElem? (i := 164) (by decide +kernel)) rfl
theorem wd709 : (.methodLink RX11 433 yX11_sign : Cond) ∈ lw_ok := lm3 (List.mem_of_getElem? (i := 165) (by decide +kernel)) rfl
theorem wd711 : (.instanceMethod yX11_sign : Cond) ∈ lw_ok := lm3 (List.mem_of_getElem? (i := 167) (by decide +kernel)) rfl
theorem wd712 : (.code yX11_sign cX11_sign 2 (none : Option Jvm.ClassFile.FieldType) : Cond) ∈ lw_ok := lm3 (List.mem_of_getElem? (i := 168) (by decide +kernel)) rfl
theorem wd713 : (.methodLink RX11 332 yX5_gives : Cond) ∈ lw_ok := lm3 (List.mem_of_getElem? (i := 169) (by decide +kernel)) rfl
theorem wd714 : (.instanceMethod yX5_gives : Cond) ∈ lw_ok := lm3 (List.mem_of_getElem? (i := 170) (by decide +kernel)) rfl
theorem wd715 : (.selects RX5 yX5_gives yX5_gives : Cond) ∈ lw_ok := lm3 (List.mem_of_getElem? (i := 171) (by decide +kernel)) rfl
theorem wd716 : (.code yX5_gives cX5_gives 3 (some .int) : Cond) ∈ lw_ok := lm3 (List.mem_of_getElem? (i := 172) (by decide +kernel)) rfl
theorem wd717 : (.methodLink RX5 54 yX1_isOfKind : Cond) ∈ lw_ok := lm3 (List.mem_of_getElem? (i := 173) (by decide +kernel)) rfl
theorem wd718 : (.methodLink RX5 60 yX5_wouldGive : Cond) ∈ lw_ok := lm3 (List.mem_of_getElem? (i := 174) (by decide +kernel)) rfl
theorem wd719 : (.methodLink RX11 450 yX6_cross : Cond) ∈ lw_ok := lm3 (List.mem_of_getElem? (i := 175) (by decide +kernel)) rfl
theorem wd720 : (.instanceMethod yX6_cross : Cond) ∈ lw_ok := lm3 (List.mem_of_getElem? (i := 176) (by decide +kernel)) rfl
theorem wd721 : (.selects RX6 yX6_cross yX6_cross : Cond) ∈ lw_ok := lm3 (List.mem_of_getElem? (i := 177) (by decide +kernel)) rfl
theorem wd722 : (.code yX6_cross cX6_cross 4 (none : Option Jvm.ClassFile.FieldType) : Cond) ∈ lw_ok := lm3 (List.mem_of_getElem? (i := 178) (by decide +kernel)) rfl
theorem wd723 : (.methodLink RX11 443 yX6_moveTo : Cond) ∈ lw_ok := lm3 (List.mem_of_getElem? (i := 179) (by decide +kernel)) rfl
theorem wd724 : (.instanceMethod yX6_moveTo : Cond) ∈ lw_ok := lm3 (List.mem_of_getElem? (i := 180) (by decide +kernel)) rfl
theorem wd725 : (.selects RX6 yX6_moveTo yX6_moveTo : Cond) ∈ lw_ok := lm3 (List.mem_of_getElem? (i := 181) (by decide +kernel)) rfl
theorem wd726 : (.code yX6_moveTo cX6_moveTo 3 (none : Option Jvm.ClassFile.FieldType) : Cond) ∈ lw_ok := lm3 (List.mem_of_getElem? (i := 182) (by decide +kernel)) rfl
theorem wd727 : (.constantLong RX11 446 (48271) : Cond) ∈ lw_ok := lm3 (List.mem_of_getElem? (i := 183) (by decide +kernel)) rfl
theorem wd728 : (.constantLong RX11 448 (12) : Cond) ∈ lw_ok := lm3 (List.mem_of_getElem? (i := 184) (by decide +kernel)) rfl
theorem wd729 : (.methodLink RL 85 yX11_where : Cond) ∈ lw_ok := lm3 (List.mem_of_getElem? (i := 185) (by decide +kernel)) rfl
theorem wd730 : (.instanceMethod yX11_where : Cond) ∈ lw_ok := lm3 (List.mem_of_getElem? (i := 186) (by decide +kernel)) rfl
theorem wd731 : (.selects RX11 yX11_where yX11_where : Cond) ∈ lw_ok := lm3 (List.mem_of_getElem? (i := 187) (by decide +kernel)) rfl
theorem wd732 : (.code yX11_where cX11_where 1 (some .int) : Cond) ∈ lw_ok := lm3 (List.mem_of_getElem? (i := 188) (by decide +kernel)) rfl
theorem wd733 : (.methodLink RL 90 yX11_told : Cond) ∈ lw_ok := lm3 (List.mem_of_getElem? (i := 189) (by decide +kernel)) rfl
theorem wd734 : (.instanceMethod yX11_told : Cond) ∈ lw_ok := lm3 (List.mem_of_getElem? (i := 190) (by decide +kernel)) rfl
theorem wd735 : (.selects RX11 yX11_told yX11_told : Cond) ∈ lw_ok := lm3 (List.mem_of_getElem? (i := 191) (by decide +kernel)) rfl
theorem wd736 : (.code yX11_told cX11_told 3 (some .int) : Cond) ∈ lw_ok := lm3 (List.mem_of_getElem? (i := 192) (by decide +kernel)) rfl
theorem wd737 : (.methodLink RX11 227 yX6_factTold : Cond) ∈ lw_ok := lm3 (List.mem_of_getElem? (i := 193) (by decide +kernel)) rfl
theorem wd738 : (.instanceMethod yX6_factTold : Cond) ∈ lw_ok := lm3 (List.mem_of_getElem? (i := 194) (by decide +kernel)) rfl
theorem wd739 : (.selects RX6 yX6_factTold yX6_factTold : Cond) ∈ lw_ok := lm3 (List.mem_of_getElem? (i := 195) (by decide +kernel)) rfl
theorem wd740 : (.code yX6_factTold cX6_factTold 3 (some .int) : Cond) ∈ lw_ok := lm3 (List.mem_of_getElem? (i := 196) (by decide +kernel)) rfl
theorem wd741 : (.methodLink RX6 65 yX6_giftOf : Cond) ∈ lw_ok := lm3 (List.mem_of_getElem? (i := 197) (by decide +kernel)) rfl
theorem wd742 : (.methodLink RX6 69 yX6_wordOf : Cond) ∈ lw_ok := lm3 (List.mem_of_getElem? (i := 198) (by decide +kernel)) rfl
theorem wd743 : (.methodLink RL 94 yX11_coins : Cond) ∈ lw_ok := lm3 (List.mem_of_getElem? (i := 199) (by decide +kernel)) rfl
theorem wd744 : (.instanceMethod yX11_coins : Cond) ∈ lw_ok := lm3 (List.mem_of_getElem? (i := 200) (by decide +kernel)) rfl
theorem wd745 : (.selects RX11 yX11_coins yX11_coins : Cond) ∈ lw_ok := lm3 (List.mem_of_getElem? (i := 201) (by decide +kernel)) rfl
theorem wd746 : (.code yX11_coins cX11_coins 1 (some .int) : Cond) ∈ lw_ok := lm3 (List.mem_of_getElem? (i := 202) (by decide +kernel)) rfl
theorem wd747 : (.methodLink RX11 230 yX6_numberOfGivers : Cond) ∈ lw_ok := lm3 (List.mem_of_getElem? (i := 203) (by decide +kernel)) rfl
theorem wd748 : (.instanceMethod yX6_numberOfGivers : Cond) ∈ lw_ok := lm3 (List.mem_of_getElem? (i := 204) (by decide +kernel)) rfl
theorem wd749 : (.selects RX6 yX6_numberOfGivers yX6_numberOfGivers : Cond) ∈ lw_ok := lm3 (List.mem_of_getElem? (i := 205) (by decide +kernel)) rfl
theorem wd750 : (.code yX6_numberOfGivers cX6_numberOfGivers 3 (some .int) : Cond) ∈ lw_ok := lm3 (List.mem_of_getElem? (i := 206) (by decide +kernel)) rfl
theorem wd751 : (.methodLink RL 98 yX11_words : Cond) ∈ lw_ok := lm3 (List.mem_of_getElem? (i := 207) (by decide +kernel)) rfl
theorem wd752 : (.instanceMethod yX11_words : Cond) ∈ lw_ok := lm3 (List.mem_of_getElem? (i := 208) (by decide +kernel)) rfl
theorem wd753 : (.selects RX11 yX11_words yX11_words : Cond) ∈ lw_ok := lm3 (List.mem_of_getElem? (i := 209) (by decide +kernel)) rfl
theorem wd754 : (.code yX11_words cX11_words 2 (some .int) : Cond) ∈ lw_ok := lm3 (List.mem_of_getElem? (i := 210) (by decide +kernel)) rfl
theorem wd755 : (.methodLink RX11 237 yX0_mostOften : Cond) ∈ lw_ok := lm3 (List.mem_of_getElem? (i := 211) (by decide +kernel)) rfl
theorem wd756 : (.methodLink RX11 240 yX0_timesOf : Cond) ∈ lw_ok := lm3 (List.mem_of_getElem? (i := 212) (by decide +kernel)) rfl
theorem wd757 : (.instanceMethod yX0_timesOf : Cond) ∈ lw_ok := lm3 (List.mem_of_getElem? (i := 213) (by decide +kernel)) rfl
theorem wd758 : (.selects RX0 yX0_timesOf yX0_timesOf : Cond) ∈ lw_ok := lm3 (List.mem_of_getElem? (i := 214) (by decide +kernel)) rfl
theorem wd759 : (.code yX0_timesOf cX0_timesOf 2 (some .int) : Cond) ∈ lw_ok := lm3 (List.mem_of_getElem? (i := 215) (by decide +kernel)) rfl
theorem wd760 : (.methodLink RL 102 yX11_next : Cond) ∈ lw_ok := lm3 (List.mem_of_getElem? (i := 216) (by decide +kernel)) rfl
theorem wd761 : (.instanceMethod yX11_next : Cond) ∈ lw_ok := lm3 (List.mem_of_getElem? (i := 217) (by decide +kernel)) rfl
theorem wd762 : (.selects RX11 yX11_next yX11_next : Cond) ∈ lw_ok := lm3 (List.mem_of_getElem? (i := 218) (by decide +kernel)) rfl
theorem wd763 : (.code yX11_next cX11_next 3 (some .int) : Cond) ∈ lw_ok := lm3 (List.mem_of_getElem? (i := 219) (by decide +kernel)) rfl
theorem wd764 : (.methodLink RX11 249 yX1_nextOf : Cond) ∈ lw_ok := lm3 (List.mem_of_getElem? (i := 220) (by decide +kernel)) rfl
theorem wd765 : (.methodLink RL 106 yX11_keep : Cond) ∈ lw_ok := lm3 (List.mem_of_getElem? (i := 221) (by decide +kernel)) rfl
theorem wd766 : (.instanceMethod yX11_keep : Cond) ∈ lw_ok := lm3 (List.mem_of_getElem? (i := 222) (by decide +kernel)) rfl
theorem wd767 : (.selects RX11 yX11_keep yX11_keep : Cond) ∈ lw_ok := lm3 (List.mem_of_getElem? (i := 223) (by decide +kernel)) rfl
theorem wd768 : (.code yX11_keep cX11_keep 3 (some .int) : Cond) ∈ lw_ok := lm3 (List.mem_of_getElem? (i := 224) (by decide +kernel)) rfl
theorem wd769 : (.methodLink RX11 257 yX6_copyFrom : Cond) ∈ lw_ok := lm3 (List.mem_of_getElem? (i := 225) (by decide +kernel)) rfl
theorem wd770 : (.instanceMethod yX6_copyFrom : Cond) ∈ lw_ok := lm3 (List.mem_of_getElem? (i := 226) (by decide +kernel)) rfl
theorem wd771 : (.selects RX6 yX6_copyFrom yX6_copyFrom : Cond) ∈ lw_ok := lm3 (List.mem_of_getElem? (i := 227) (by decide +kernel)) rfl
theorem wd772 : (.code yX6_copyFrom cX6_copyFrom 2 (none : Option Jvm.ClassFile.FieldType) : Cond) ∈ lw_ok := lm3 (List.mem_of_getElem? (i := 228) (by decide +kernel)) rfl
theorem wd773 : (.methodLink RX6 57 yX6_copyCells : Cond) ∈ lw_ok := lm3 (List.mem_of_getElem? (i := 229) (by decide +kernel)) rfl
theorem wd774 : (.static yX6_copyCells : Cond) ∈ lw_ok := lm3 (List.mem_of_getElem? (i := 230) (by decide +kernel)) rfl
theorem wd775 : (.code yX6_copyCells cX6_copyCells 3 (none : Option Jvm.ClassFile.FieldType) : Cond) ∈ lw_ok := lm3 (List.mem_of_getElem? (i := 231) (by decide +kernel)) rfl
theorem wd776 : (.methodLink RL 110 yX11_on : Cond) ∈ lw_ok := lm3 (List.mem_of_getElem? (i := 232) (by decide +kernel)) rfl
theorem wd777 : (.instanceMethod yX11_on : Cond) ∈ lw_ok := lm3 (List.mem_of_getElem? (i := 233) (by decide +kernel)) rfl
theorem wd778 : (.selects RX11 yX11_on yX11_on : Cond) ∈ lw_ok := lm3 (List.mem_of_getElem? (i := 234) (by decide +kernel)) rfl
theorem wd779 : (.code yX11_on cX11_on 3 (some .int) : Cond) ∈ lw_ok := lm3 (List.mem_of_getElem? (i := 235) (by decide +kernel)) rfl
theorem wd780 : (.methodLink RL 114 yX11_friday : Cond) ∈ lw_ok := lm3 (List.mem_of_getElem? (i := 236) (by decide +kernel)) rfl
theorem wd781 : (.instanceMethod yX11_friday : Cond) ∈ lw_ok := lm3 (List.mem_of_getElem? (i := 237) (by decide +kernel)) rfl
theorem wd782 : (.selects RX11 yX11_friday yX11_friday : Cond) ∈ lw_ok := lm3 (List.mem_of_getElem? (i := 238) (by decide +kernel)) rfl
theorem wd783 : (.code yX11_friday cX11_friday 2 (some .int) : Cond) ∈ lw_ok := lm3 (List.mem_of_getElem? (i := 239) (by decide +kernel)) rfl
theorem wd784 : (.methodLink RX11 262 yX11_isAhead : Cond) ∈ lw_ok := lm4 (List.mem_of_getElem? (i := 0) (by decide +kernel)) rfl
theorem wd785 : (.static yX11_isAhead : Cond) ∈ lw_ok := lm4 (List.mem_of_getElem? (i := 1) (by decide +kernel)) rfl
theorem wd786 : (.code yX11_isAhead cX11_isAhead 1 (some .boolean) : Cond) ∈ lw_ok := lm4 (List.mem_of_getElem? (i := 2) (by decide +kernel)) rfl
theorem wd787 : (.methodLink RX11 265 yX2_look : Cond) ∈ lw_ok := lm4 (List.mem_of_getElem? (i := 3) (by decide +kernel)) rfl
theorem wd788 : (.instanceMethod yX2_look : Cond) ∈ lw_ok := lm4 (List.mem_of_getElem? (i := 4) (by decide +kernel)) rfl
theorem wd789 : (.selects RX2 yX2_look yX2_look : Cond) ∈ lw_ok := lm4 (List.mem_of_getElem? (i := 5) (by decide +kernel)) rfl
theorem wd790 : (.code yX2_look cX2_look 4 (none : Option Jvm.ClassFile.FieldType) : Cond) ∈ lw_ok := lm4 (List.mem_of_getElem? (i := 6) (by decide +kernel)) rfl
theorem wd791 : (.methodLink RX2 45 yX2_startFrom : Cond) ∈ lw_ok := lm4 (List.mem_of_getElem? (i := 7) (by decide +kernel)) rfl
theorem wd792 : (.instanceMethod yX2_startFrom : Cond) ∈ lw_ok := lm4 (List.mem_of_getElem? (i := 8) (by decide +kernel)) rfl
theorem wd793 : (.selects RX2 yX2_startFrom yX2_startFrom : Cond) ∈ lw_ok := lm4 (List.mem_of_getElem? (i := 9) (by decide +kernel)) rfl
theorem wd794 : (.code yX2_startFrom cX2_startFrom 4 (none : Option Jvm.ClassFile.FieldType) : Cond) ∈ lw_ok := lm4 (List.mem_of_getElem? (i := 10) (by decide +kernel)) rfl
theorem wd795 : (.methodLink RX2 59 yX8_clear : Cond) ∈ lw_ok := lm4 (List.mem_of_getElem? (i := 11) (by decide +kernel)) rfl
theorem wd796 : (.instanceMethod yX8_clear : Cond) ∈ lw_ok := lm4 (List.mem_of_getElem? (i := 12) (by decide +kernel)) rfl
theorem wd797 : (.selects RX8 yX8_clear yX8_clear : Cond) ∈ lw_ok := lm4 (List.mem_of_getElem? (i := 13) (by decide +kernel)) rfl
theorem wd798 : (.code yX8_clear cX8_clear 3 (none : Option Jvm.ClassFile.FieldType) : Cond) ∈ lw_ok := lm4 (List.mem_of_getElem? (i := 14) (by decide +kernel)) rfl
theorem wd799 : (.methodLink RX8 27 yX8_keyAt : Cond) ∈ lw_ok := lm4 (List.mem_of_getElem? (i := 15) (by decide +kernel)) rfl
theorem wd800 : (.instanceMethod yX8_keyAt : Cond) ∈ lw_ok := lm4 (List.mem_of_getElem? (i := 16) (by decide +kernel)) rfl
theorem wd801 : (.selects RX8 yX8_keyAt yX8_keyAt : Cond) ∈ lw_ok := lm4 (List.mem_of_getElem? (i := 17) (by decide +kernel)) rfl
theorem wd802 : (.code yX8_keyAt cX8_keyAt 2 (some .int) : Cond) ∈ lw_ok := lm4 (List.mem_of_getElem? (i := 18) (by decide +kernel)) rfl
theorem wd803 : (.methodLink RX2 65 yX8_add : Cond) ∈ lw_ok := lm4 (List.mem_of_getElem? (i := 19) (by decide +kernel)) rfl
theorem wd804 : (.instanceMethod yX8_add : Cond) ∈ lw_ok := lm4 (List.mem_of_getElem? (i := 20) (by decide +kernel)) rfl
theorem wd805 : (.selects RX8 yX8_add yX8_add : Cond) ∈ lw_ok := lm4 (List.mem_of_getElem? (i := 21) (by decide +kernel)) rfl
theorem wd806 : (.code yX8_add cX8_add 6 (none : Option Jvm.ClassFile.FieldType) : Cond) ∈ lw_ok := lm4 (List.mem_of_getElem? (i := 22) (by decide +kernel)) rfl
theorem wd807 : (.methodLink RX2 55 yX2_passHours : Cond) ∈ lw_ok := lm4 (List.mem_of_getElem? (i := 23) (by decide +kernel)) rfl
theorem wd808 : (.instanceMethod yX2_passHours : Cond) ∈ lw_ok := lm4 (List.mem_of_getElem? (i := 24) (by decide +kernel)) rfl
theorem wd809 : (.selects RX2 yX2_passHours yX2_passHours : Cond) ∈ lw_ok := lm4 (List.mem_of_getElem? (i := 25) (by decide +kernel)) rfl
theorem wd810 : (.code yX2_passHours cX2_passHours 7 (none : Option Jvm.ClassFile.FieldType) : Cond) ∈ lw_ok := lm4 (List.mem_of_getElem? (i := 26) (by decide +kernel)) rfl
theorem wd811 : (.constantLong RX2 69 (12) : Cond) ∈ lw_ok := lm4 (List.mem_of_getElem? (i := 27) (by decide +kernel)) rfl
theorem wd812 : (.methodLink RX2 74 yX8_keyAt : Cond) ∈ lw_ok := lm4 (List.mem_of_getElem? (i := 28) (by decide +kernel)) rfl
theorem wd813 : (.methodLink RX2 78 yX2_spread : Cond) ∈ lw_ok := lm4 (List.mem_of_getElem? (i := 29) (by decide +kernel)) rfl
theorem wd814 : (.instanceMethod yX2_spread : Cond) ∈ lw_ok := lm4 (List.mem_of_getElem? (i := 30) (by decide +kernel)) rfl
theorem wd815 : (.selects RX2 yX2_spread yX2_spread : Cond) ∈ lw_ok := lm4 (List.mem_of_getElem? (i := 31) (by decide +kernel)) rfl
theorem wd816 : (.code yX2_spread cX2_spread 8 (none : Option Jvm.ClassFile.FieldType) : Cond) ∈ lw_ok := lm4 (List.mem_of_getElem? (i := 32) (by decide +kernel)) rfl
theorem wd817 : (.methodLink RX2 81 yX8_deskOf : Cond) ∈ lw_ok := lm4 (List.mem_of_getElem? (i := 33) (by decide +kernel)) rfl
theorem wd818 : (.static yX8_deskOf : Cond) ∈ lw_ok := lm4 (List.mem_of_getElem? (i := 34) (by decide +kernel)) rfl
theorem wd819 : (.code yX8_deskOf cX8_deskOf 1 (some .int) : Cond) ∈ lw_ok := lm4 (List.mem_of_getElem? (i := 35) (by decide +kernel)) rfl
theorem wd820 : (.methodLink RX2 84 yX8_crossedOf : Cond) ∈ lw_ok := lm4 (List.mem_of_getElem? (i := 36) (by decide +kernel)) rfl
theorem wd821 : (.static yX8_crossedOf : Cond) ∈ lw_ok := lm4 (List.mem_of_getElem? (i := 37) (by decide +kernel)) rfl
theorem wd822 : (.code yX8_crossedOf cX8_crossedOf 1 (some .int) : Cond) ∈ lw_ok := lm4 (List.mem_of_getElem? (i := 38) (by decide +kernel)) rfl
theorem wd823 : (.methodLink RX2 87 yX9_passHour : Cond) ∈ lw_ok := lm4 (List.mem_of_getElem? (i := 39) (by decide +kernel)) rfl
theorem wd824 : (.methodLink RX2 91 yX8_partOf : Cond) ∈ lw_ok := lm4 (List.mem_of_getElem? (i := 40) (by decide +kernel)) rfl
theorem wd825 : (.instanceMethod yX8_partOf : Cond) ∈ lw_ok := lm4 (List.mem_of_getElem? (i := 41) (by decide +kernel)) rfl
theorem wd826 : (.selects RX8 yX8_partOf yX8_partOf : Cond) ∈ lw_ok := lm4 (List.mem_of_getElem? (i := 42) (by decide +kernel)) rfl
theorem wd827 : (.code yX8_partOf cX8_partOf 2 (some .long) : Cond) ∈ lw_ok := lm4 (List.mem_of_getElem? (i := 43) (by decide +kernel)) rfl
theorem wd828 : (.methodLink RX11 269 yX2_partHome : Cond) ∈ lw_ok := lm4 (List.mem_of_getElem? (i := 44) (by decide +kernel)) rfl
theorem wd829 : (.instanceMethod yX2_partHome : Cond) ∈ lw_ok := lm4 (List.mem_of_getElem? (i := 45) (by decide +kernel)) rfl
theorem wd830 : (.selects RX2 yX2_partHome yX2_partHome : Cond) ∈ lw_ok := lm4 (List.mem_of_getElem? (i := 46) (by decide +kernel)) rfl
theorem wd831 : (.code yX2_partHome cX2_partHome 1 (some .long) : Cond) ∈ lw_ok := lm4 (List.mem_of_getElem? (i := 47) (by decide +kernel)) rfl
theorem wd832 : (.methodLink RX11 276 yX11_tellFraction : Cond) ∈ lw_ok := lm4 (List.mem_of_getElem? (i := 48) (by decide +kernel)) rfl
theorem wd834 : (.instanceMethod yX11_tellFraction : Cond) ∈ lw_ok := lm4 (List.mem_of_getElem? (i := 50) (by decide +kernel)) rfl
theorem wd835 : (.code yX11_tellFraction cX11_tellFraction 8 (some .int) : Cond) ∈ lw_ok := lm4 (List.mem_of_getElem? (i := 51) (by decide +kernel)) rfl
theorem wd836 : (.methodLink RX11 416 yX11_commonDivisor : Cond) ∈ lw_ok := lm4 (List.mem_of_getElem? (i := 52) (by decide +kernel)) rfl
theorem wd837 : (.static yX11_commonDivisor : Cond) ∈ lw_ok := lm4 (List.mem_of_getElem? (i := 53) (by decide +kernel)) rfl
theorem wd838 : (.code yX11_commonDivisor cX11_commonDivisor 11 (some .long) : Cond) ∈ lw_ok := lm4 (List.mem_of_getElem? (i := 54) (by decide +kernel)) rfl
theorem wd839 : (.methodLink RL 118 yX11_odds : Cond) ∈ lw_ok := lm4 (List.mem_of_getElem? (i := 55) (by decide +kernel)) rfl
theorem wd840 : (.instanceMethod yX11_odds : Cond) ∈ lw_ok := lm4 (List.mem_of_getElem? (i := 56) (by decide +kernel)) rfl
theorem wd841 : (.selects RX11 yX11_odds yX11_odds : Cond) ∈ lw_ok := lm4 (List.mem_of_getElem? (i := 57) (by decide +kernel)) rfl
theorem wd842 : (.code yX11_odds cX11_odds 3 (some .int) : Cond) ∈ lw_ok := lm4 (List.mem_of_getElem? (i := 58) (by decide +kernel)) rfl
theorem wd843 : (.methodLink RX11 283 yX2_partAt : Cond) ∈ lw_ok := lm4 (List.mem_of_getElem? (i := 59) (by decide +kernel)) rfl
theorem wd844 : (.instanceMethod yX2_partAt : Cond) ∈ lw_ok := lm4 (List.mem_of_getElem? (i := 60) (by decide +kernel)) rfl
theorem wd845 : (.selects RX2 yX2_partAt yX2_partAt : Cond) ∈ lw_ok := lm4 (List.mem_of_getElem? (i := 61) (by decide +kernel)) rfl
theorem wd846 : (.code yX2_partAt cX2_partAt 7 (some .long) : Cond) ∈ lw_ok := lm4 (List.mem_of_getElem? (i := 62) (by decide +kernel)) rfl
theorem wd847 : (.methodLink RL 122 yX11_ask : Cond) ∈ lw_ok := lm4 (List.mem_of_getElem? (i := 63) (by decide +kernel)) rfl
theorem wd848 : (.instanceMethod yX11_ask : Cond) ∈ lw_ok := lm4 (List.mem_of_getElem? (i := 64) (by decide +kernel)) rfl
theorem wd849 : (.selects RX11 yX11_ask yX11_ask : Cond) ∈ lw_ok := lm4 (List.mem_of_getElem? (i := 65) (by decide +kernel)) rfl
theorem wd850 : (.code yX11_ask cX11_ask 9 (some .int) : Cond) ∈ lw_ok := lm4 (List.mem_of_getElem? (i := 66) (by decide +kernel)) rfl
theorem wd851 : (.methodLink RX11 287 yX11_likeliestBut : Cond) ∈ lw_ok := lm4 (List.mem_of_getElem? (i := 67) (by decide +kernel)) rfl
theorem wd853 : (.instanceMethod yX11_likeliestBut : Cond) ∈ lw_ok := lm4 (List.mem_of_getElem? (i := 69) (by decide +kernel)) rfl
theorem wd854 : (.code yX11_likeliestBut cX11_likeliestBut 8 (some .int) : Cond) ∈ lw_ok := lm4 (List.mem_of_getElem? (i := 70) (by decide +kernel)) rfl
theorem wd855 : (.constantLong RX11 295 (-1) : Cond) ∈ lw_ok := lm4 (List.mem_of_getElem? (i := 71) (by decide +kernel)) rfl
theorem wd856 : (.methodLink RX11 290 yJ6_bitCount_0f7a4 : Cond) ∈ lw_ok := lm4 (List.mem_of_getElem? (i := 72) (by decide +kernel)) rfl
theorem wd857 : (.static yJ6_bitCount_0f7a4 : Cond) ∈ lw_ok := lm4 (List.mem_of_getElem? (i := 73) (by decide +kernel)) rfl
theorem wd858 : (.code yJ6_bitCount_0f7a4 cJ6_bitCount_0f7a4 1 (some .int) : Cond) ∈ lw_ok := lm4 (List.mem_of_getElem? (i := 74) (by decide +kernel)) rfl
theorem wd859 : (.constant RJ6 265 (1431655765) : Cond) ∈ lw_ok := lm4 (List.mem_of_getElem? (i := 75) (by decide +kernel)) rfl
theorem wd860 : (.constant RJ6 266 (858993459) : Cond) ∈ lw_ok := lm4 (List.mem_of_getElem? (i := 76) (by decide +kernel)) rfl
theorem wd861 : (.constant RJ6 267 (252645135) : Cond) ∈ lw_ok := lm4 (List.mem_of_getElem? (i := 77) (by decide +kernel)) rfl
theorem wd862 : (.methodLink RL 126 yX11_rule : Cond) ∈ lw_ok := lm4 (List.mem_of_getElem? (i := 78) (by decide +kernel)) rfl
theorem wd863 : (.instanceMethod yX11_rule : Cond) ∈ lw_ok := lm4 (List.mem_of_getElem? (i := 79) (by decide +kernel)) rfl
theorem wd864 : (.selects RX11 yX11_rule yX11_rule : Cond) ∈ lw_ok := lm4 (List.mem_of_getElem? (i := 80) (by decide +kernel)) rfl
theorem wd865 : (.code yX11_rule cX11_rule 7 (some .int) : Cond) ∈ lw_ok := lm4 (List.mem_of_getElem? (i := 81) (by decide +kernel)) rfl
theorem wd866 : (.methodLink RX11 297 yX2_lookAnew : Cond) ∈ lw_ok := lm4 (List.mem_of_getElem? (i := 82) (by decide +kernel)) rfl
theorem wd867 : (.instanceMethod yX2_lookAnew : Cond) ∈ lw_ok := lm4 (List.mem_of_getElem? (i := 83) (by decide +kernel)) rfl
theorem wd868 : (.selects RX2 yX2_lookAnew yX2_lookAnew : Cond) ∈ lw_ok := lm4 (List.mem_of_getElem? (i := 84) (by decide +kernel)) rfl
theorem wd869 : (.code yX2_lookAnew cX2_lookAnew 5 (none : Option Jvm.ClassFile.FieldType) : Cond) ∈ lw_ok := lm4 (List.mem_of_getElem? (i := 85) (by decide +kernel)) rfl
theorem wd870 : (.methodLink RL 130 yX11_order : Cond) ∈ lw_ok := lm4 (List.mem_of_getElem? (i := 86) (by decide +kernel)) rfl
theorem wd871 : (.instanceMethod yX11_order : Cond) ∈ lw_ok := lm4 (List.mem_of_getElem? (i := 87) (by decide +kernel)) rfl
theorem wd872 : (.selects RX11 yX11_order yX11_order : Cond) ∈ lw_ok := lm4 (List.mem_of_getElem? (i := 88) (by decide +kernel)) rfl
theorem wd873 : (.code yX11_order cX11_order 3 (some .int) : Cond) ∈ lw_ok := lm4 (List.mem_of_getElem? (i := 89) (by decide +kernel)) rfl
theorem wd874 : (.methodLink RX11 301 yX11_readOrder : Cond) ∈ lw_ok := lm4 (List.mem_of_getElem? (i := 90) (by decide +kernel)) rfl
theorem wd876 : (.instanceMethod yX11_readOrder : Cond) ∈ lw_ok := lm4 (List.mem_of_getElem? (i := 92) (by decide +kernel)) rfl
theorem wd877 : (.code yX11_readOrder cX11_readOrder 5 (some .int) : Cond) ∈ lw_ok := lm4 (List.mem_of_getElem? (i := 93) (by decide +kernel)) rfl
theorem wd878 : (.methodLink RX11 453 yX3_clear : Cond) ∈ lw_ok := lm4 (List.mem_of_getElem? (i := 94) (by decide +kernel)) rfl
theorem wd879 : (.instanceMethod yX3_clear : Cond) ∈ lw_ok := lm4 (List.mem_of_getElem? (i := 95) (by decide +kernel)) rfl
theorem wd880 : (.selects RX3 yX3_clear yX3_clear : Cond) ∈ lw_ok := lm4 (List.mem_of_getElem? (i := 96) (by decide +kernel)) rfl
theorem wd881 : (.code yX3_clear cX3_clear 1 (none : Option Jvm.ClassFile.FieldType) : Cond) ∈ lw_ok := lm4 (List.mem_of_getElem? (i := 97) (by decide +kernel)) rfl
theorem wd882 : (.methodLink RX11 326 yX6_isCrossed : Cond) ∈ lw_ok := lm4 (List.mem_of_getElem? (i := 98) (by decide +kernel)) rfl
theorem wd883 : (.methodLink RX11 329 yX3_holds : Cond) ∈ lw_ok := lm4 (List.mem_of_getElem? (i := 99) (by decide +kernel)) rfl
theorem wd884 : (.instanceMethod yX3_holds : Cond) ∈ lw_ok := lm4 (List.mem_of_getElem? (i := 100) (by decide +kernel)) rfl
theorem wd885 : (.selects RX3 yX3_holds yX3_holds : Cond) ∈ lw_ok := lm4 (List.mem_of_getElem? (i := 101) (by decide +kernel)) rfl
theorem wd886 : (.code yX3_holds cX3_holds 2 (some .boolean) : Cond) ∈ lw_ok := lm4 (List.mem_of_getElem? (i := 102) (by decide +kernel)) rfl
theorem wd887 : (.methodLink RX11 456 yX3_add : Cond) ∈ lw_ok := lm4 (List.mem_of_getElem? (i := 103) (by decide +kernel)) rfl
theorem wd888 : (.instanceMethod yX3_add : Cond) ∈ lw_ok := lm4 (List.mem_of_getElem? (i := 104) (by decide +kernel)) rfl
theorem wd889 : (.selects RX3 yX3_add yX3_add : Cond) ∈ lw_ok := lm4 (List.mem_of_getElem? (i := 105) (by decide +kernel)) rfl
theorem wd890 : (.code yX3_add cX3_add 2 (none : Option Jvm.ClassFile.FieldType) : Cond) ∈ lw_ok := lm4 (List.mem_of_getElem? (i := 106) (by decide +kernel)) rfl
theorem wd891 : (.methodLink RX11 304 yX11_bringIn : Cond) ∈ lw_ok := lm4 (List.mem_of_getElem? (i := 107) (by decide +kernel)) rfl
theorem wd893 : (.instanceMethod yX11_bringIn : Cond) ∈ lw_ok := lm4 (List.mem_of_getElem? (i := 109) (by decide +kernel)) rfl
theorem wd894 : (.code yX11_bringIn cX11_bringIn 3 (some .int) : Cond) ∈ lw_ok := lm4 (List.mem_of_getElem? (i := 110) (by decide +kernel)) rfl
theorem wd895 : (.methodLink RX11 457 yX5_copyFrom : Cond) ∈ lw_ok := lm4 (List.mem_of_getElem? (i := 111) (by decide +kernel)) rfl
theorem wd896 : (.instanceMethod yX5_copyFrom : Cond) ∈ lw_ok := lm4 (List.mem_of_getElem? (i := 112) (by decide +kernel)) rfl
theorem wd897 : (.selects RX5 yX5_copyFrom yX5_copyFrom : Cond) ∈ lw_ok := lm4 (List.mem_of_getElem? (i := 113) (by decide +kernel)) rfl
theorem wd898 : (.code yX5_copyFrom cX5_copyFrom 2 (none : Option Jvm.ClassFile.FieldType) : Cond) ∈ lw_ok := lm4 (List.mem_of_getElem? (i := 114) (by decide +kernel)) rfl
theorem wd899 : (.methodLink RX11 460 yX3_deskAt : Cond) ∈ lw_ok := lm4 (List.mem_of_getElem? (i := 115) (by decide +kernel)) rfl
theorem wd900 : (.instanceMethod yX3_deskAt : Cond) ∈ lw_ok := lm4 (List.mem_of_getElem? (i := 116) (by decide +kernel)) rfl
theorem wd901 : (.selects RX3 yX3_deskAt yX3_deskAt : Cond) ∈ lw_ok := lm4 (List.mem_of_getElem? (i := 117) (by decide +kernel)) rfl
theorem wd902 : (.code yX3_deskAt cX3_deskAt 2 (some .int) : Cond) ∈ lw_ok := lm4 (List.mem_of_getElem? (i := 118) (by decide +kernel)) rfl
theorem wd903 : (.methodLink RX11 335 yX5_take : Cond) ∈ lw_ok := lm4 (List.mem_of_getElem? (i := 119) (by decide +kernel)) rfl
theorem wd904 : (.methodLink RL 134 yX11_most : Cond) ∈ lw_ok := lm4 (List.mem_of_getElem? (i := 120) (by decide +kernel)) rfl
theorem wd905 : (.instanceMethod yX11_most : Cond) ∈ lw_ok := lm4 (List.mem_of_getElem? (i := 121) (by decide +kernel)) rfl
theorem wd906 : (.selects RX11 yX11_most yX11_most : Cond) ∈ lw_ok := lm4 (List.mem_of_getElem? (i := 122) (by decide +kernel)) rfl
theorem wd907 : (.code yX11_most cX11_most 5 (some .int) : Cond) ∈ lw_ok := lm4 (List.mem_of_getElem? (i := 123) (by decide +kernel)) rfl
theorem wd908 : (.methodLink RX11 307 yX11_isSetOfDesks : Cond) ∈ lw_ok := lm4 (List.mem_of_getElem? (i := 124) (by decide +kernel)) rfl
theorem wd910 : (.instanceMethod yX11_isSetOfDesks : Cond) ∈ lw_ok := lm4 (List.mem_of_getElem? (i := 126) (by decide +kernel)) rfl
theorem wd911 : (.code yX11_isSetOfDesks cX11_isSetOfDesks 2 (some .boolean) : Cond) ∈ lw_ok := lm4 (List.mem_of_getElem? (i := 127) (by decide +kernel)) rfl
theorem wd912 : (.methodLink RX11 420 yX1_all : Cond) ∈ lw_ok := lm4 (List.mem_of_getElem? (i := 128) (by decide +kernel)) rfl
theorem wd913 : (.methodLink RX11 310 yX11_tryAllOrders : Cond) ∈ lw_ok := lm4 (List.mem_of_getElem? (i := 129) (by decide +kernel)) rfl
theorem wd915 : (.instanceMethod yX11_tryAllOrders : Cond) ∈ lw_ok := lm4 (List.mem_of_getElem? (i := 131) (by decide +kernel)) rfl
theorem wd916 : (.code yX11_tryAllOrders cX11_tryAllOrders 3 (none : Option Jvm.ClassFile.FieldType) : Cond) ∈ lw_ok := lm4 (List.mem_of_getElem? (i := 132) (by decide +kernel)) rfl
theorem wd917 : (.methodLink RX11 463 yX3_judgeFirst : Cond) ∈ lw_ok := lm4 (List.mem_of_getElem? (i := 133) (by decide +kernel)) rfl
theorem wd918 : (.instanceMethod yX3_judgeFirst : Cond) ∈ lw_ok := lm4 (List.mem_of_getElem? (i := 134) (by decide +kernel)) rfl
theorem wd919 : (.selects RX3 yX3_judgeFirst yX3_judgeFirst : Cond) ∈ lw_ok := lm4 (List.mem_of_getElem? (i := 135) (by decide +kernel)) rfl
theorem wd920 : (.code yX3_judgeFirst cX3_judgeFirst 2 (none : Option Jvm.ClassFile.FieldType) : Cond) ∈ lw_ok := lm4 (List.mem_of_getElem? (i := 136) (by decide +kernel)) rfl
theorem wd921 : (.methodLink RX3 31 yX3_markBest : Cond) ∈ lw_ok := lm4 (List.mem_of_getElem? (i := 137) (by decide +kernel)) rfl
theorem wd922 : (.instanceMethod yX3_markBest : Cond) ∈ lw_ok := lm4 (List.mem_of_getElem? (i := 138) (by decide +kernel)) rfl
theorem wd923 : (.selects RX3 yX3_markBest yX3_markBest : Cond) ∈ lw_ok := lm4 (List.mem_of_getElem? (i := 139) (by decide +kernel)) rfl
theorem wd924 : (.code yX3_markBest cX3_markBest 2 (none : Option Jvm.ClassFile.FieldType) : Cond) ∈ lw_ok := lm4 (List.mem_of_getElem? (i := 140) (by decide +kernel)) rfl
theorem wd925 : (.methodLink RX11 466 yX3_turn : Cond) ∈ lw_ok := lm4 (List.mem_of_getElem? (i := 141) (by decide +kernel)) rfl
theorem wd926 : (.instanceMethod yX3_turn : Cond) ∈ lw_ok := lm4 (List.mem_of_getElem? (i := 142) (by decide +kernel)) rfl
theorem wd927 : (.selects RX3 yX3_turn yX3_turn : Cond) ∈ lw_ok := lm4 (List.mem_of_getElem? (i := 143) (by decide +kernel)) rfl
theorem wd928 : (.code yX3_turn cX3_turn 5 (some .boolean) : Cond) ∈ lw_ok := lm4 (List.mem_of_getElem? (i := 144) (by decide +kernel)) rfl
theorem wd929 : (.methodLink RX3 40 yX3_deskAt : Cond) ∈ lw_ok := lm4 (List.mem_of_getElem? (i := 145) (by decide +kernel)) rfl
theorem wd930 : (.methodLink RX3 44 yX3_swap : Cond) ∈ lw_ok := lm4 (List.mem_of_getElem? (i := 146) (by decide +kernel)) rfl
theorem wd931 : (.instanceMethod yX3_swap : Cond) ∈ lw_ok := lm4 (List.mem_of_getElem? (i := 147) (by decide +kernel)) rfl
theorem wd932 : (.selects RX3 yX3_swap yX3_swap : Cond) ∈ lw_ok := lm4 (List.mem_of_getElem? (i := 148) (by decide +kernel)) rfl
theorem wd933 : (.code yX3_swap cX3_swap 4 (none : Option Jvm.ClassFile.FieldType) : Cond) ∈ lw_ok := lm4 (List.mem_of_getElem? (i := 149) (by decide +kernel)) rfl
theorem wd934 : (.methodLink RX11 470 yX3_judge : Cond) ∈ lw_ok := lm4 (List.mem_of_getElem? (i := 150) (by decide +kernel)) rfl
theorem wd935 : (.instanceMethod yX3_judge : Cond) ∈ lw_ok := lm4 (List.mem_of_getElem? (i := 151) (by decide +kernel)) rfl
theorem wd936 : (.selects RX3 yX3_judge yX3_judge : Cond) ∈ lw_ok := lm4 (List.mem_of_getElem? (i := 152) (by decide +kernel)) rfl
theorem wd937 : (.code yX3_judge cX3_judge 2 (none : Option Jvm.ClassFile.FieldType) : Cond) ∈ lw_ok := lm4 (List.mem_of_getElem? (i := 153) (by decide +kernel)) rfl
theorem wd938 : (.methodLink RX3 34 Lib.Math.min.name : Cond) ∈ lw_ok := lm4 (List.mem_of_getElem? (i := 154) (by decide +kernel)) rfl
theorem wd939 : (.static Lib.Math.min.name : Cond) ∈ lw_ok := lm4 (List.mem_of_getElem? (i := 155) (by decide +kernel)) rfl
theorem wd940 : (.code Lib.Math.min.name Lib.Math.min.code 2 (some .int) : Cond) ∈ lw_ok := lm4 (List.mem_of_getElem? (i := 156) (by decide +kernel)) rfl
theorem wd941 : (.methodLink RX11 316 yX3_bestAt : Cond) ∈ lw_ok := lm4 (List.mem_of_getElem? (i := 157) (by decide +kernel)) rfl
theorem wd942 : (.instanceMethod yX3_bestAt : Cond) ∈ lw_ok := lm4 (List.mem_of_getElem? (i := 158) (by decide +kernel)) rfl
theorem wd943 : (.selects RX3 yX3_bestAt yX3_bestAt : Cond) ∈ lw_ok := lm4 (List.mem_of_getElem? (i := 159) (by decide +kernel)) rfl
theorem wd944 : (.code yX3_bestAt cX3_bestAt 2 (some .int) : Cond) ∈ lw_ok := lm4 (List.mem_of_getElem? (i := 160) (by decide +kernel)) rfl
theorem wd945 : (.methodLink RL 138 yX11_spans : Cond) ∈ lw_ok := lm4 (List.mem_of_getElem? (i := 161) (by decide +kernel)) rfl
theorem wd946 : (.instanceMethod yX11_spans : Cond) ∈ lw_ok := lm4 (List.mem_of_getElem? (i := 162) (by decide +kernel)) rfl
theorem wd947 : (.selects RX11 yX11_spans yX11_spans : Cond) ∈ lw_ok := lm4 (List.mem_of_getElem? (i := 163) (by decide +kernel)) rfl
theorem wd948 : (.code yX11_spans cX11_spans 3 (some .int) : Cond) ∈ lw_ok := lm4 (List.mem_of_getElem? (i := 164) (by decide +kernel)) rfl
theorem wd949 : (.methodLink RL 142 yX11_best : Cond) ∈ lw_ok := lm4 (List.mem_of_getElem? (i := 165) (by decide +kernel)) rfl
theorem wd950 : (.instanceMethod yX11_best : Cond) ∈ lw_ok := lm4 (List.mem_of_getElem? (i := 166) (by decide +kernel)) rfl
theorem wd951 : (.selects RX11 yX11_best yX11_best : Cond) ∈ lw_ok := lm4 (List.mem_of_getElem? (i := 167) (by decide +kernel)) rfl
theorem wd952 : (.code yX11_best cX11_best 7 (some .int) : Cond) ∈ lw_ok := lm4 (List.mem_of_getElem? (i := 168) (by decide +kernel)) rfl
theorem wd953 : (.methodLink RL 146 yX11_first : Cond) ∈ lw_ok := lm4 (List.mem_of_getElem? (i := 169) (by decide +kernel)) rfl
theorem wd954 : (.instanceMethod yX11_first : Cond) ∈ lw_ok := lm4 (List.mem_of_getElem? (i := 170) (by decide +kernel)) rfl
theorem wd955 : (.selects RX11 yX11_first yX11_first : Cond) ∈ lw_ok := lm4 (List.mem_of_getElem? (i := 171) (by decide +kernel)) rfl
theorem wd956 : (.code yX11_first cX11_first 5 (some .int) : Cond) ∈ lw_ok := lm4 (List.mem_of_getElem? (i := 172) (by decide +kernel)) rfl
theorem wd957 : (.methodLink RL 150 yX11_buy : Cond) ∈ lw_ok := lm4 (List.mem_of_getElem? (i := 173) (by decide +kernel)) rfl
theorem wd958 : (.instanceMethod yX11_buy : Cond) ∈ lw_ok := lm4 (List.mem_of_getElem? (i := 174) (by decide +kernel)) rfl
theorem wd959 : (.selects RX11 yX11_buy yX11_buy : Cond) ∈ lw_ok := lm4 (List.mem_of_getElem? (i := 175) (by decide +kernel)) rfl
theorem wd960 : (.code yX11_buy cX11_buy 7 (some .int) : Cond) ∈ lw_ok := lm4 (List.mem_of_getElem? (i := 176) (by decide +kernel)) rfl
theorem wd961 : (.methodLink RX11 338 yX7_allWithin : Cond) ∈ lw_ok := lm4 (List.mem_of_getElem? (i := 177) (by decide +kernel)) rfl
theorem wd962 : (.instanceMethod yX7_allWithin : Cond) ∈ lw_ok := lm4 (List.mem_of_getElem? (i := 178) (by decide +kernel)) rfl
theorem wd963 : (.selects RX7 yX7_allWithin yX7_allWithin : Cond) ∈ lw_ok := lm4 (List.mem_of_getElem? (i := 179) (by decide +kernel)) rfl
theorem wd964 : (.code yX7_allWithin cX7_allWithin 5 (some .boolean) : Cond) ∈ lw_ok := lm4 (List.mem_of_getElem? (i := 180) (by decide +kernel)) rfl
theorem wd965 : (.methodLink RX11 341 yX11_priceStep : Cond) ∈ lw_ok := lm4 (List.mem_of_getElem? (i := 181) (by decide +kernel)) rfl
theorem wd967 : (.instanceMethod yX11_priceStep : Cond) ∈ lw_ok := lm4 (List.mem_of_getElem? (i := 183) (by decide +kernel)) rfl
theorem wd968 : (.code yX11_priceStep cX11_priceStep 6 (some .int) : Cond) ∈ lw_ok := lm4 (List.mem_of_getElem? (i := 184) (by decide +kernel)) rfl
theorem wd969 : (.methodLink RX11 473 yJ6_numberOfTrailingZeros_0f7a4 : Cond) ∈ lw_ok := lm4 (List.mem_of_getElem? (i := 185) (by decide +kernel)) rfl
theorem wd970 : (.static yJ6_numberOfTrailingZeros_0f7a4 : Cond) ∈ lw_ok := lm4 (List.mem_of_getElem? (i := 186) (by decide +kernel)) rfl
theorem wd971 : (.code yJ6_numberOfTrailingZeros_0f7a4 cJ6_numberOfTrailingZeros_0f7a4 2 (some .int) : Cond) ∈ lw_ok := lm4 (List.mem_of_getElem? (i := 187) (by decide +kernel)) rfl
theorem wd972 : (.constant RJ6 264 (65536) : Cond) ∈ lw_ok := lm4 (List.mem_of_getElem? (i := 188) (by decide +kernel)) rfl
theorem wd973 : (.methodLink RL 154 yX11_fill : Cond) ∈ lw_ok := lm4 (List.mem_of_getElem? (i := 189) (by decide +kernel)) rfl
theorem wd974 : (.instanceMethod yX11_fill : Cond) ∈ lw_ok := lm4 (List.mem_of_getElem? (i := 190) (by decide +kernel)) rfl
theorem wd975 : (.selects RX11 yX11_fill yX11_fill : Cond) ∈ lw_ok := lm4 (List.mem_of_getElem? (i := 191) (by decide +kernel)) rfl
theorem wd976 : (.code yX11_fill cX11_fill 3 (some .int) : Cond) ∈ lw_ok := lm4 (List.mem_of_getElem? (i := 192) (by decide +kernel)) rfl
theorem wd977 : (.methodLink RX11 344 Lib.Math.max.name : Cond) ∈ lw_ok := lm4 (List.mem_of_getElem? (i := 193) (by decide +kernel)) rfl
theorem wd978 : (.methodLink RL 158 yX11_nothing : Cond) ∈ lw_ok := lm4 (List.mem_of_getElem? (i := 194) (by decide +kernel)) rfl
theorem wd979 : (.instanceMethod yX11_nothing : Cond) ∈ lw_ok := lm4 (List.mem_of_getElem? (i := 195) (by decide +kernel)) rfl
theorem wd980 : (.selects RX11 yX11_nothing yX11_nothing : Cond) ∈ lw_ok := lm4 (List.mem_of_getElem? (i := 196) (by decide +kernel)) rfl
theorem wd981 : (.code yX11_nothing cX11_nothing 5 (some .int) : Cond) ∈ lw_ok := lm4 (List.mem_of_getElem? (i := 197) (by decide +kernel)) rfl
theorem wd982 : (.methodLink RX11 349 yX11_isWay : Cond) ∈ lw_ok := lm4 (List.mem_of_getElem? (i := 198) (by decide +kernel)) rfl
theorem wd984 : (.instanceMethod yX11_isWay : Cond) ∈ lw_ok := lm4 (List.mem_of_getElem? (i := 200) (by decide +kernel)) rfl
theorem wd985 : (.code yX11_isWay cX11_isWay 5 (some .boolean) : Cond) ∈ lw_ok := lm4 (List.mem_of_getElem? (i := 201) (by decide +kernel)) rfl
theorem wd986 : (.methodLink RL 162 yX11_gaveNone : Cond) ∈ lw_ok := lm4 (List.mem_of_getElem? (i := 202) (by decide +kernel)) rfl
theorem wd987 : (.instanceMethod yX11_gaveNone : Cond) ∈ lw_ok := lm4 (List.mem_of_getElem? (i := 203) (by decide +kernel)) rfl
theorem wd988 : (.selects RX11 yX11_gaveNone yX11_gaveNone : Cond) ∈ lw_ok := lm4 (List.mem_of_getElem? (i := 204) (by decide +kernel)) rfl
theorem wd989 : (.code yX11_gaveNone cX11_gaveNone 6 (some .int) : Cond) ∈ lw_ok := lm4 (List.mem_of_getElem? (i := 205) (by decide +kernel)) rfl
theorem wd990 : (.methodLink RL 166 yX11_fits : Cond) ∈ lw_ok := lm4 (List.mem_of_getElem? (i := 206) (by decide +kernel)) rfl
theorem wd991 : (.instanceMethod yX11_fits : Cond) ∈ lw_ok := lm4 (List.mem_of_getElem? (i := 207) (by decide +kernel)) rfl
theorem wd992 : (.selects RX11 yX11_fits yX11_fits : Cond) ∈ lw_ok := lm4 (List.mem_of_getElem? (i := 208) (by decide +kernel)) rfl
theorem wd993 : (.code yX11_fits cX11_fits 9 (some .int) : Cond) ∈ lw_ok := lm4 (List.mem_of_getElem? (i := 209) (by decide +kernel)) rfl
theorem wd994 : (.methodLink RX11 352 yX11_isCard : Cond) ∈ lw_ok := lm4 (List.mem_of_getElem? (i := 210) (by decide +kernel)) rfl
theorem wd995 : (.static yX11_isCard : Cond) ∈ lw_ok := lm4 (List.mem_of_getElem? (i := 211) (by decide +kernel)) rfl
theorem wd996 : (.code yX11_isCard cX11_isCard 2 (some .boolean) : Cond) ∈ lw_ok := lm4 (List.mem_of_getElem? (i := 212) (by decide +kernel)) rfl
theorem wd997 : (.methodLink RX11 355 yX4_withName : Cond) ∈ lw_ok := lm4 (List.mem_of_getElem? (i := 213) (by decide +kernel)) rfl
theorem wd998 : (.instanceMethod yX4_withName : Cond) ∈ lw_ok := lm4 (List.mem_of_getElem? (i := 214) (by decide +kernel)) rfl
theorem wd999 : (.selects RX4 yX4_withName yX4_withName : Cond) ∈ lw_ok := lm4 (List.mem_of_getElem? (i := 215) (by decide +kernel)) rfl
theorem wd1000 : (.code yX4_withName cX4_withName 5 (some .int) : Cond) ∈ lw_ok := lm4 (List.mem_of_getElem? (i := 216) (by decide +kernel)) rfl
theorem wd1001 : (.constant RX4 15 (64000) : Cond) ∈ lw_ok := lm4 (List.mem_of_getElem? (i := 217) (by decide +kernel)) rfl
theorem wd1002 : (.methodLink RX4 16 yX4_linesOf : Cond) ∈ lw_ok := lm4 (List.mem_of_getElem? (i := 218) (by decide +kernel)) rfl
theorem wd1003 : (.instanceMethod yX4_linesOf : Cond) ∈ lw_ok := lm4 (List.mem_of_getElem? (i := 219) (by decide +kernel)) rfl
theorem wd1004 : (.selects RX4 yX4_linesOf yX4_linesOf : Cond) ∈ lw_ok := lm4 (List.mem_of_getElem? (i := 220) (by decide +kernel)) rfl
theorem wd1005 : (.code yX4_linesOf cX4_linesOf 2 (some .int) : Cond) ∈ lw_ok := lm4 (List.mem_of_getElem? (i := 221) (by decide +kernel)) rfl
theorem wd1006 : (.methodLink RX11 359 yX4_linesOf : Cond) ∈ lw_ok := lm4 (List.mem_of_getElem? (i := 222) (by decide +kernel)) rfl
theorem wd1007 : (.methodLink RL 170 yX11_room : Cond) ∈ lw_ok := lm4 (List.mem_of_getElem? (i := 223) (by decide +kernel)) rfl
theorem wd1008 : (.instanceMethod yX11_room : Cond) ∈ lw_ok := lm4 (List.mem_of_getElem? (i := 224) (by decide +kernel)) rfl
theorem wd1009 : (.selects RX11 yX11_room yX11_room : Cond) ∈ lw_ok := lm4 (List.mem_of_getElem? (i := 225) (by decide +kernel)) rfl
theorem wd1010 : (.code yX11_room cX11_room 6 (some .int) : Cond) ∈ lw_ok := lm4 (List.mem_of_getElem? (i := 226) (by decide +kernel)) rfl
theorem wd1011 : (.methodLink RX11 362 yX4_fullestSet : Cond) ∈ lw_ok := lm4 (List.mem_of_getElem? (i := 227) (by decide +kernel)) rfl
theorem wd1012 : (.instanceMethod yX4_fullestSet : Cond) ∈ lw_ok := lm4 (List.mem_of_getElem? (i := 228) (by decide +kernel)) rfl
theorem wd1013 : (.selects RX4 yX4_fullestSet yX4_fullestSet : Cond) ∈ lw_ok := lm4 (List.mem_of_getElem? (i := 229) (by decide +kernel)) rfl
theorem wd1014 : (.code yX4_fullestSet cX4_fullestSet 8 (some .int) : Cond) ∈ lw_ok := lm4 (List.mem_of_getElem? (i := 230) (by decide +kernel)) rfl
theorem wd1015 : (.methodLink RX4 20 yX7_sizeOf : Cond) ∈ lw_ok := lm4 (List.mem_of_getElem? (i := 231) (by decide +kernel)) rfl
theorem wd1016 : (.methodLink RX4 25 Lib.Math.min.name : Cond) ∈ lw_ok := lm4 (List.mem_of_getElem? (i := 232) (by decide +kernel)) rfl
theorem wd1017 : (.methodLink RX4 31 yX4_layLeast : Cond) ∈ lw_ok := lm4 (List.mem_of_getElem? (i := 233) (by decide +kernel)) rfl
theorem wd1018 : (.instanceMethod yX4_layLeast : Cond) ∈ lw_ok := lm4 (List.mem_of_getElem? (i := 234) (by decide +kernel)) rfl
theorem wd1019 : (.selects RX4 yX4_layLeast yX4_layLeast : Cond) ∈ lw_ok := lm4 (List.mem_of_getElem? (i := 235) (by decide +kernel)) rfl
theorem wd1020 : (.code yX4_layLeast cX4_layLeast 7 (some .int) : Cond) ∈ lw_ok := lm4 (List.mem_of_getElem? (i := 236) (by decide +kernel)) rfl
theorem wd1021 : (.methodLink RX4 40 yX4_leastOf : Cond) ∈ lw_ok := lm4 (List.mem_of_getElem? (i := 237) (by decide +kernel)) rfl
theorem wd1022 : (.instanceMethod yX4_leastOf : Cond) ∈ lw_ok := lm4 (List.mem_of_getElem? (i := 238) (by decide +kernel)) rfl
theorem wd1023 : (.selects RX4 yX4_leastOf yX4_leastOf : Cond) ∈ lw_ok := lm4 (List.mem_of_getElem? (i := 239) (by decide +kernel)) rfl
theorem wd1024 : (.code yX4_leastOf cX4_leastOf 2 (some .int) : Cond) ∈ lw_ok := lm5 (List.mem_of_getElem? (i := 0) (by decide +kernel)) rfl
theorem wd1025 : (.methodLink RX4 43 yX7_cell : Cond) ∈ lw_ok := lm5 (List.mem_of_getElem? (i := 1) (by decide +kernel)) rfl
theorem wd1026 : (.methodLink RX4 46 yX4_withName : Cond) ∈ lw_ok := lm5 (List.mem_of_getElem? (i := 2) (by decide +kernel)) rfl
theorem wd1027 : (.methodLink RX4 35 yJ6_bitCount_0f7a4 : Cond) ∈ lw_ok := lm5 (List.mem_of_getElem? (i := 3) (by decide +kernel)) rfl
theorem wd1028 : (.methodLink RL 174 yX11_starts : Cond) ∈ lw_ok := lm5 (List.mem_of_getElem? (i := 4) (by decide +kernel)) rfl
theorem wd1029 : (.instanceMethod yX11_starts : Cond) ∈ lw_ok := lm5 (List.mem_of_getElem? (i := 5) (by decide +kernel)) rfl
theorem wd1030 : (.selects RX11 yX11_starts yX11_starts : Cond) ∈ lw_ok := lm5 (List.mem_of_getElem? (i := 6) (by decide +kernel)) rfl
theorem wd1031 : (.code yX11_starts cX11_starts 4 (some .int) : Cond) ∈ lw_ok := lm5 (List.mem_of_getElem? (i := 7) (by decide +kernel)) rfl
theorem wd1032 : (.methodLink RX11 366 yX0_add : Cond) ∈ lw_ok := lm5 (List.mem_of_getElem? (i := 8) (by decide +kernel)) rfl
theorem wd1033 : (.methodLink RL 178 yX11_year : Cond) ∈ lw_ok := lm5 (List.mem_of_getElem? (i := 9) (by decide +kernel)) rfl
theorem wd1034 : (.instanceMethod yX11_year : Cond) ∈ lw_ok := lm5 (List.mem_of_getElem? (i := 10) (by decide +kernel)) rfl
theorem wd1035 : (.selects RX11 yX11_year yX11_year : Cond) ∈ lw_ok := lm5 (List.mem_of_getElem? (i := 11) (by decide +kernel)) rfl
theorem wd1036 : (.code yX11_year cX11_year 2 (some .int) : Cond) ∈ lw_ok := lm5 (List.mem_of_getElem? (i := 12) (by decide +kernel)) rfl
theorem wd1037 : (.methodLink RX11 369 yX5_copyTermsFrom : Cond) ∈ lw_ok := lm5 (List.mem_of_getElem? (i := 13) (by decide +kernel)) rfl
theorem wd1038 : (.methodLink RX11 372 yX10_add : Cond) ∈ lw_ok := lm5 (List.mem_of_getElem? (i := 14) (by decide +kernel)) rfl
theorem wd1039 : (.instanceMethod yX10_add : Cond) ∈ lw_ok := lm5 (List.mem_of_getElem? (i := 15) (by decide +kernel)) rfl
theorem wd1040 : (.selects RX10 yX10_add yX10_add : Cond) ∈ lw_ok := lm5 (List.mem_of_getElem? (i := 16) (by decide +kernel)) rfl
theorem wd1041 : (.code yX10_add cX10_add 6 (some .int) : Cond) ∈ lw_ok := lm5 (List.mem_of_getElem? (i := 17) (by decide +kernel)) rfl
theorem wd1042 : (.methodLink RX10 25 yX10_setCell : Cond) ∈ lw_ok := lm5 (List.mem_of_getElem? (i := 18) (by decide +kernel)) rfl
theorem wd1043 : (.static yX10_setCell : Cond) ∈ lw_ok := lm5 (List.mem_of_getElem? (i := 19) (by decide +kernel)) rfl
theorem wd1044 : (.code yX10_setCell cX10_setCell 3 (none : Option Jvm.ClassFile.FieldType) : Cond) ∈ lw_ok := lm5 (List.mem_of_getElem? (i := 20) (by decide +kernel)) rfl
theorem wd1045 : (.methodLink RX10 29 yX10_celebrate : Cond) ∈ lw_ok := lm5 (List.mem_of_getElem? (i := 21) (by decide +kernel)) rfl
theorem wd1046 : (.instanceMethod yX10_celebrate : Cond) ∈ lw_ok := lm5 (List.mem_of_getElem? (i := 22) (by decide +kernel)) rfl
theorem wd1047 : (.selects RX10 yX10_celebrate yX10_celebrate : Cond) ∈ lw_ok := lm5 (List.mem_of_getElem? (i := 23) (by decide +kernel)) rfl
theorem wd1048 : (.code yX10_celebrate cX10_celebrate 8 (some .int) : Cond) ∈ lw_ok := lm5 (List.mem_of_getElem? (i := 24) (by decide +kernel)) rfl
theorem wd1049 : (.methodLink RX10 33 yX5_clear : Cond) ∈ lw_ok := lm5 (List.mem_of_getElem? (i := 25) (by decide +kernel)) rfl
theorem wd1050 : (.methodLink RX10 41 yX5_gives : Cond) ∈ lw_ok := lm5 (List.mem_of_getElem? (i := 26) (by decide +kernel)) rfl
theorem wd1051 : (.methodLink RX10 45 yX5_take : Cond) ∈ lw_ok := lm5 (List.mem_of_getElem? (i := 27) (by decide +kernel)) rfl
theorem wd1052 : (.methodLink RX10 49 yX10_cell : Cond) ∈ lw_ok := lm5 (List.mem_of_getElem? (i := 28) (by decide +kernel)) rfl
theorem wd1053 : (.static yX10_cell : Cond) ∈ lw_ok := lm5 (List.mem_of_getElem? (i := 29) (by decide +kernel)) rfl
theorem wd1054 : (.code yX10_cell cX10_cell 2 (some .int) : Cond) ∈ lw_ok := lm5 (List.mem_of_getElem? (i := 30) (by decide +kernel)) rfl
theorem wd1055 : (.methodLink RL 182 yX11_balance : Cond) ∈ lw_ok := lm5 (List.mem_of_getElem? (i := 31) (by decide +kernel)) rfl
theorem wd1056 : (.instanceMethod yX11_balance : Cond) ∈ lw_ok := lm5 (List.mem_of_getElem? (i := 32) (by decide +kernel)) rfl
theorem wd1057 : (.selects RX11 yX11_balance yX11_balance : Cond) ∈ lw_ok := lm5 (List.mem_of_getElem? (i := 33) (by decide +kernel)) rfl
theorem wd1058 : (.code yX11_balance cX11_balance 2 (some .int) : Cond) ∈ lw_ok := lm5 (List.mem_of_getElem? (i := 34) (by decide +kernel)) rfl
theorem wd1059 : (.methodLink RX11 375 yX10_balanceOf : Cond) ∈ lw_ok := lm5 (List.mem_of_getElem? (i := 35) (by decide +kernel)) rfl
theorem wd1060 : (.instanceMethod yX10_balanceOf : Cond) ∈ lw_ok := lm5 (List.mem_of_getElem? (i := 36) (by decide +kernel)) rfl
theorem wd1061 : (.selects RX10 yX10_balanceOf yX10_balanceOf : Cond) ∈ lw_ok := lm5 (List.mem_of_getElem? (i := 37) (by decide +kernel)) rfl
theorem wd1062 : (.code yX10_balanceOf cX10_balanceOf 4 (some .int) : Cond) ∈ lw_ok := lm5 (List.mem_of_getElem? (i := 38) (by decide +kernel)) rfl
theorem wd1063 : (.methodLink RL 186 yX11_forget : Cond) ∈ lw_ok := lm5 (List.mem_of_getElem? (i := 39) (by decide +kernel)) rfl
theorem wd1064 : (.instanceMethod yX11_forget : Cond) ∈ lw_ok := lm5 (List.mem_of_getElem? (i := 40) (by decide +kernel)) rfl
theorem wd1065 : (.selects RX11 yX11_forget yX11_forget : Cond) ∈ lw_ok := lm5 (List.mem_of_getElem? (i := 41) (by decide +kernel)) rfl
theorem wd1066 : (.code yX11_forget cX11_forget 3 (some .int) : Cond) ∈ lw_ok := lm5 (List.mem_of_getElem? (i := 42) (by decide +kernel)) rfl
theorem wd1067 : (.methodLink RL 190 yX11_even : Cond) ∈ lw_ok := lm5 (List.mem_of_getElem? (i := 43) (by decide +kernel)) rfl
theorem wd1068 : (.instanceMethod yX11_even : Cond) ∈ lw_ok := lm5 (List.mem_of_getElem? (i := 44) (by decide +kernel)) rfl
theorem wd1069 : (.selects RX11 yX11_even yX11_even : Cond) ∈ lw_ok := lm5 (List.mem_of_getElem? (i := 45) (by decide +kernel)) rfl
theorem wd1070 : (.code yX11_even cX11_even 6 (some .int) : Cond) ∈ lw_ok := lm5 (List.mem_of_getElem? (i := 46) (by decide +kernel)) rfl
theorem wd1071 : (.methodLink RX11 379 yX10_apartAfter : Cond) ∈ lw_ok := lm5 (List.mem_of_getElem? (i := 47) (by decide +kernel)) rfl
theorem wd1072 : (.instanceMethod yX10_apartAfter : Cond) ∈ lw_ok := lm5 (List.mem_of_getElem? (i := 48) (by decide +kernel)) rfl
theorem wd1073 : (.selects RX10 yX10_apartAfter yX10_apartAfter : Cond) ∈ lw_ok := lm5 (List.mem_of_getElem? (i := 49) (by decide +kernel)) rfl
theorem wd1074 : (.code yX10_apartAfter cX10_apartAfter 8 (some .int) : Cond) ∈ lw_ok := lm5 (List.mem_of_getElem? (i := 50) (by decide +kernel)) rfl
theorem wd1075 : (.methodLink RX10 56 yX7_sizeOf : Cond) ∈ lw_ok := lm5 (List.mem_of_getElem? (i := 51) (by decide +kernel)) rfl
theorem wd1076 : (.methodLink RX10 62 yX7_cell : Cond) ∈ lw_ok := lm5 (List.mem_of_getElem? (i := 52) (by decide +kernel)) rfl
theorem wd1077 : (.methodLink RX10 65 Lib.Math.max.name : Cond) ∈ lw_ok := lm5 (List.mem_of_getElem? (i := 53) (by decide +kernel)) rfl
theorem wd1078 : (.methodLink RX10 70 Lib.Math.min.name : Cond) ∈ lw_ok := lm5 (List.mem_of_getElem? (i := 54) (by decide +kernel)) rfl
theorem wd1079 : (.methodLink RL 194 yX11_asked : Cond) ∈ lw_ok := lm5 (List.mem_of_getElem? (i := 55) (by decide +kernel)) rfl
theorem wd1080 : (.instanceMethod yX11_asked : Cond) ∈ lw_ok := lm5 (List.mem_of_getElem? (i := 56) (by decide +kernel)) rfl
theorem wd1081 : (.selects RX11 yX11_asked yX11_asked : Cond) ∈ lw_ok := lm5 (List.mem_of_getElem? (i := 57) (by decide +kernel)) rfl
theorem wd1082 : (.code yX11_asked cX11_asked 1 (some .int) : Cond) ∈ lw_ok := lm5 (List.mem_of_getElem? (i := 58) (by decide +kernel)) rfl
theorem wd1083 : (.methodLink RL 198 yX11_upper : Cond) ∈ lw_ok := lm5 (List.mem_of_getElem? (i := 59) (by decide +kernel)) rfl
theorem wd1084 : (.instanceMethod yX11_upper : Cond) ∈ lw_ok := lm5 (List.mem_of_getElem? (i := 60) (by decide +kernel)) rfl
theorem wd1085 : (.selects RX11 yX11_upper yX11_upper : Cond) ∈ lw_ok := lm5 (List.mem_of_getElem? (i := 61) (by decide +kernel)) rfl
theorem wd1086 : (.code yX11_upper cX11_upper 1 (some .long) : Cond) ∈ lw_ok := lm5 (List.mem_of_getElem? (i := 62) (by decide +kernel)) rfl
theorem wd1087 : (.methodLink RL 203 yX11_lower : Cond) ∈ lw_ok := lm5 (List.mem_of_getElem? (i := 63) (by decide +kernel)) rfl
theorem wd1088 : (.instanceMethod yX11_lower : Cond) ∈ lw_ok := lm5 (List.mem_of_getElem? (i := 64) (by decide +kernel)) rfl
theorem wd1089 : (.selects RX11 yX11_lower yX11_lower : Cond) ∈ lw_ok := lm5 (List.mem_of_getElem? (i := 65) (by decide +kernel)) rfl
theorem wd1090 : (.code yX11_lower cX11_lower 1 (some .long) : Cond) ∈ lw_ok := lm5 (List.mem_of_getElem? (i := 66) (by decide +kernel)) rfl
theorem wd1091 : (.methodLink RL 207 yX11_count : Cond) ∈ lw_ok := lm5 (List.mem_of_getElem? (i := 67) (by decide +kernel)) rfl
theorem wd1092 : (.instanceMethod yX11_count : Cond) ∈ lw_ok := lm5 (List.mem_of_getElem? (i := 68) (by decide +kernel)) rfl
theorem wd1093 : (.selects RX11 yX11_count yX11_count : Cond) ∈ lw_ok := lm5 (List.mem_of_getElem? (i := 69) (by decide +kernel)) rfl
theorem wd1094 : (.code yX11_count cX11_count 2 (some .int) : Cond) ∈ lw_ok := lm5 (List.mem_of_getElem? (i := 70) (by decide +kernel)) rfl
theorem wd1095 : (.methodLink RX11 383 yX1_numberOfKind : Cond) ∈ lw_ok := lm5 (List.mem_of_getElem? (i := 71) (by decide +kernel)) rfl
theorem wd1096 : (.instanceMethod yX1_numberOfKind : Cond) ∈ lw_ok := lm5 (List.mem_of_getElem? (i := 72) (by decide +kernel)) rfl
theorem wd1097 : (.selects RX1 yX1_numberOfKind yX1_numberOfKind : Cond) ∈ lw_ok := lm5 (List.mem_of_getElem? (i := 73) (by decide +kernel)) rfl
theorem wd1098 : (.code yX1_numberOfKind cX1_numberOfKind 4 (some .int) : Cond) ∈ lw_ok := lm5 (List.mem_of_getElem? (i := 74) (by decide +kernel)) rfl
theorem wd1099 : (.methodLink RX1 23 yX1_isOfKind : Cond) ∈ lw_ok := lm5 (List.mem_of_getElem? (i := 75) (by decide +kernel)) rfl
theorem wd1100 : (.methodLink RX11 386 yX11_numberOfKept : Cond) ∈ lw_ok := lm5 (List.mem_of_getElem? (i := 76) (by decide +kernel)) rfl
theorem wd1102 : (.instanceMethod yX11_numberOfKept : Cond) ∈ lw_ok := lm5 (List.mem_of_getElem? (i := 78) (by decide +kernel)) rfl
theorem wd1103 : (.code yX11_numberOfKept cX11_numberOfKept 3 (some .int) : Cond) ∈ lw_ok := lm5 (List.mem_of_getElem? (i := 79) (by decide +kernel)) rfl
theorem wd1104 : (.methodLink RX11 409 yX11_hourKept : Cond) ∈ lw_ok := lm5 (List.mem_of_getElem? (i := 80) (by decide +kernel)) rfl
theorem wd1106 : (.instanceMethod yX11_hourKept : Cond) ∈ lw_ok := lm5 (List.mem_of_getElem? (i := 82) (by decide +kernel)) rfl
theorem wd1107 : (.code yX11_hourKept cX11_hourKept 3 (some .int) : Cond) ∈ lw_ok := lm5 (List.mem_of_getElem? (i := 83) (by decide +kernel)) rfl
theorem wd1108 : (.methodLink RX11 389 yX7_numberThere : Cond) ∈ lw_ok := lm5 (List.mem_of_getElem? (i := 84) (by decide +kernel)) rfl
theorem wd1109 : (.instanceMethod yX7_numberThere : Cond) ∈ lw_ok := lm5 (List.mem_of_getElem? (i := 85) (by decide +kernel)) rfl
theorem wd1110 : (.selects RX7 yX7_numberThere yX7_numberThere : Cond) ∈ lw_ok := lm5 (List.mem_of_getElem? (i := 86) (by decide +kernel)) rfl
theorem wd1111 : (.code yX7_numberThere cX7_numberThere 3 (some .int) : Cond) ∈ lw_ok := lm5 (List.mem_of_getElem? (i := 87) (by decide +kernel)) rfl
theorem wd1112 : (.methodLink RX7 43 yX7_isThere : Cond) ∈ lw_ok := lm5 (List.mem_of_getElem? (i := 88) (by decide +kernel)) rfl
theorem wd1113 : (.methodLink RL 211 yX11_finding : Cond) ∈ lw_ok := lm5 (List.mem_of_getElem? (i := 89) (by decide +kernel)) rfl
theorem wd1114 : (.instanceMethod yX11_finding : Cond) ∈ lw_ok := lm5 (List.mem_of_getElem? (i := 90) (by decide +kernel)) rfl
theorem wd1115 : (.selects RX11 yX11_finding yX11_finding : Cond) ∈ lw_ok := lm5 (List.mem_of_getElem? (i := 91) (by decide +kernel)) rfl
theorem wd1116 : (.code yX11_finding cX11_finding 1 (some .int) : Cond) ∈ lw_ok := lm5 (List.mem_of_getElem? (i := 92) (by decide +kernel)) rfl
theorem wd1117 : (.methodLink RL 215 yX11_findings : Cond) ∈ lw_ok := lm5 (List.mem_of_getElem? (i := 93) (by decide +kernel)) rfl
theorem wd1118 : (.instanceMethod yX11_findings : Cond) ∈ lw_ok := lm5 (List.mem_of_getElem? (i := 94) (by decide +kernel)) rfl
theorem wd1119 : (.selects RX11 yX11_findings yX11_findings : Cond) ∈ lw_ok := lm5 (List.mem_of_getElem? (i := 95) (by decide +kernel)) rfl
theorem wd1120 : (.code yX11_findings cX11_findings 2 (some .int) : Cond) ∈ lw_ok := lm5 (List.mem_of_getElem? (i := 96) (by decide +kernel)) rfl
theorem wd1121 : (.methodLink RL 219 yX11_digest : Cond) ∈ lw_ok := lm5 (List.mem_of_getElem? (i := 97) (by decide +kernel)) rfl
theorem wd1122 : (.instanceMethod yX11_digest : Cond) ∈ lw_ok := lm5 (List.mem_of_getElem? (i := 98) (by decide +kernel)) rfl
theorem wd1123 : (.selects RX11 yX11_digest yX11_digest : Cond) ∈ lw_ok := lm5 (List.mem_of_getElem? (i := 99) (by decide +kernel)) rfl
theorem wd1124 : (.code yX11_digest cX11_digest 4 (some .long) : Cond) ∈ lw_ok := lm5 (List.mem_of_getElem? (i := 100) (by decide +kernel)) rfl
theorem wd1125 : (.constantLong RX11 392 (17) : Cond) ∈ lw_ok := lm5 (List.mem_of_getElem? (i := 101) (by decide +kernel)) rfl
theorem wd1126 : (.constantLong RX11 394 (31) : Cond) ∈ lw_ok := lm5 (List.mem_of_getElem? (i := 102) (by decide +kernel)) rfl
theorem wd1127 : (.methodLink RX11 396 yX11_count : Cond) ∈ lw_ok := lm5 (List.mem_of_getElem? (i := 103) (by decide +kernel)) rfl
theorem wd1128 : (.methodLink RX11 399 yX6_mixInto : Cond) ∈ lw_ok := lm5 (List.mem_of_getElem? (i := 104) (by decide +kernel)) rfl
theorem wd1129 : (.instanceMethod yX6_mixInto : Cond) ∈ lw_ok := lm5 (List.mem_of_getElem? (i := 105) (by decide +kernel)) rfl
theorem wd1130 : (.selects RX6 yX6_mixInto yX6_mixInto : Cond) ∈ lw_ok := lm5 (List.mem_of_getElem? (i := 106) (by decide +kernel)) rfl
theorem wd1131 : (.code yX6_mixInto cX6_mixInto 5 (some .long) : Cond) ∈ lw_ok := lm5 (List.mem_of_getElem? (i := 107) (by decide +kernel)) rfl
theorem wd1132 : (.constantLong RX6 72 (31) : Cond) ∈ lw_ok := lm5 (List.mem_of_getElem? (i := 108) (by decide +kernel)) rfl
theorem wd1133 : (.methodLink RX11 402 yX11_mixDesk : Cond) ∈ lw_ok := lm5 (List.mem_of_getElem? (i := 109) (by decide +kernel)) rfl
theorem wd1135 : (.instanceMethod yX11_mixDesk : Cond) ∈ lw_ok := lm5 (List.mem_of_getElem? (i := 111) (by decide +kernel)) rfl
theorem wd1136 : (.code yX11_mixDesk cX11_mixDesk 7 (some .long) : Cond) ∈ lw_ok := lm5 (List.mem_of_getElem? (i := 112) (by decide +kernel)) rfl
theorem wd1137 : (.methodLink RX11 406 yX10_leaverOf : Cond) ∈ lw_ok := lm5 (List.mem_of_getElem? (i := 113) (by decide +kernel)) rfl
theorem wd1138 : (.instanceMethod yX10_leaverOf : Cond) ∈ lw_ok := lm5 (List.mem_of_getElem? (i := 114) (by decide +kernel)) rfl
theorem wd1139 : (.selects RX10 yX10_leaverOf yX10_leaverOf : Cond) ∈ lw_ok := lm5 (List.mem_of_getElem? (i := 115) (by decide +kernel)) rfl
theorem wd1140 : (.code yX10_leaverOf cX10_leaverOf 2 (some .int) : Cond) ∈ lw_ok := lm5 (List.mem_of_getElem? (i := 116) (by decide +kernel)) rfl
theorem wd1141 : (.methodLink RX11 412 yX7_mixInto : Cond) ∈ lw_ok := lm5 (List.mem_of_getElem? (i := 117) (by decide +kernel)) rfl
theorem wd1142 : (.instanceMethod yX7_mixInto : Cond) ∈ lw_ok := lm5 (List.mem_of_getElem? (i := 118) (by decide +kernel)) rfl
theorem wd1143 : (.selects RX7 yX7_mixInto yX7_mixInto : Cond) ∈ lw_ok := lm5 (List.mem_of_getElem? (i := 119) (by decide +kernel)) rfl
theorem wd1144 : (.code yX7_mixInto cX7_mixInto 7 (some .long) : Cond) ∈ lw_ok := lm5 (List.mem_of_getElem? (i := 120) (by decide +kernel)) rfl
theorem wd1145 : (.constantLong RX7 47 (31) : Cond) ∈ lw_ok := lm5 (List.mem_of_getElem? (i := 121) (by decide +kernel)) rfl
theorem wd1146 : (.classLink RL 10 RX12 : Cond) ∈ lw_ok := lm5 (List.mem_of_getElem? (i := 122) (by decide +kernel)) rfl
theorem wd1147 : (.instantiable RX12 54 : Cond) ∈ lw_ok := lm5 (List.mem_of_getElem? (i := 123) (by decide +kernel)) rfl
theorem wd1148 : (.methodLink RL 12 yX12_init : Cond) ∈ lw_ok := lm5 (List.mem_of_getElem? (i := 124) (by decide +kernel)) rfl
theorem wd1149 : (.instanceMethod yX12_init : Cond) ∈ lw_ok := lm5 (List.mem_of_getElem? (i := 125) (by decide +kernel)) rfl
theorem wd1150 : (.code yX12_init cX12_init 2 (none : Option Jvm.ClassFile.FieldType) : Cond) ∈ lw_ok := lm5 (List.mem_of_getElem? (i := 126) (by decide +kernel)) rfl
theorem wd1151 : (.methodLink RX12 1 Lib.objectInit : Cond) ∈ lw_ok := lm5 (List.mem_of_getElem? (i := 127) (by decide +kernel)) rfl
theorem wd1152 : (.fieldLink RX12 78 "EnvelopeCardModel" "finding" "I" : Cond) ∈ lw_ok := lm5 (List.mem_of_getElem? (i := 128) (by decide +kernel)) rfl
theorem wd1153 : (.fieldLink RX12 7 "EnvelopeCardModel" "findings" "[I" : Cond) ∈ lw_ok := lm5 (List.mem_of_getElem? (i := 129) (by decide +kernel)) rfl
theorem wd1154 : (.fieldLink RX12 82 "EnvelopeCardModel" "asked" "I" : Cond) ∈ lw_ok := lm5 (List.mem_of_getElem? (i := 130) (by decide +kernel)) rfl
theorem wd1155 : (.fieldLink RX12 85 "EnvelopeCardModel" "upper" "J" : Cond) ∈ lw_ok := lm5 (List.mem_of_getElem? (i := 131) (by decide +kernel)) rfl
theorem wd1156 : (.fieldLink RX12 13 "EnvelopeCardModel" "lower" "J" : Cond) ∈ lw_ok := lm5 (List.mem_of_getElem? (i := 132) (by decide +kernel)) rfl
theorem wd1157 : (.fieldLink RX12 17 "EnvelopeCardModel" "sizes" "[I" : Cond) ∈ lw_ok := lm5 (List.mem_of_getElem? (i := 133) (by decide +kernel)) rfl
theorem wd1158 : (.fieldLink RX12 20 "EnvelopeCardModel" "rows" "[I" : Cond) ∈ lw_ok := lm5 (List.mem_of_getElem? (i := 134) (by decide +kernel)) rfl
theorem wd1159 : (.fieldLink RX12 23 "EnvelopeCardModel" "moving" "[I" : Cond) ∈ lw_ok := lm5 (List.mem_of_getElem? (i := 135) (by decide +kernel)) rfl
theorem wd1160 : (.fieldLink RX12 26 "EnvelopeCardModel" "lengths" "[I" : Cond) ∈ lw_ok := lm5 (List.mem_of_getElem? (i := 136) (by decide +kernel)) rfl
theorem wd1161 : (.fieldLink RX12 29 "EnvelopeCardModel" "texts" "[I" : Cond) ∈ lw_ok := lm5 (List.mem_of_getElem? (i := 137) (by decide +kernel)) rfl
theorem wd1162 : (.fieldLink RX12 141 "EnvelopeCardModel" "many" "I" : Cond) ∈ lw_ok := lm5 (List.mem_of_getElem? (i := 138) (by decide +kernel)) rfl
theorem wd1163 : (.fieldLink RX12 32 "EnvelopeCardModel" "desks" "[I" : Cond) ∈ lw_ok := lm5 (List.mem_of_getElem? (i := 139) (by decide +kernel)) rfl
theorem wd1164 : (.fieldLink RX12 144 "EnvelopeCardModel" "law" "I" : Cond) ∈ lw_ok := lm5 (List.mem_of_getElem? (i := 140) (by decide +kernel)) rfl
theorem wd1165 : (.fieldLink RX12 147 "EnvelopeCardModel" "named" "I" : Cond) ∈ lw_ok := lm5 (List.mem_of_getElem? (i := 141) (by decide +kernel)) rfl
theorem wd1166 : (.fieldLink RX12 150 "EnvelopeCardModel" "linked" "I" : Cond) ∈ lw_ok := lm5 (List.mem_of_getElem? (i := 142) (by decide +kernel)) rfl
theorem wd1167 : (.fieldLink RX12 123 "EnvelopeCardModel" "readAt" "I" : Cond) ∈ lw_ok := lm5 (List.mem_of_getElem? (i := 143) (by decide +kernel)) rfl
theorem wd1168 : (.fieldLink RX12 132 "EnvelopeCardModel" "readMany" "I" : Cond) ∈ lw_ok := lm5 (List.mem_of_getElem? (i := 144) (by decide +kernel)) rfl
theorem wd1169 : (.fieldLink RX12 188 "EnvelopeCardModel" "crossed" "I" : Cond) ∈ lw_ok := lm5 (List.mem_of_getElem? (i := 145) (by decide +kernel)) rfl
theorem wd1170 : (.fieldLink RX12 35 "EnvelopeCardModel" "gave" "[I" : Cond) ∈ lw_ok := lm5 (List.mem_of_getElem? (i := 146) (by decide +kernel)) rfl
theorem wd1171 : (.fieldLink RX12 38 "EnvelopeCardModel" "wrote" "[I" : Cond) ∈ lw_ok := lm5 (List.mem_of_getElem? (i := 147) (by decide +kernel)) rfl
theorem wd1172 : (.fieldLink RX12 41 "EnvelopeCardModel" "when" "[I" : Cond) ∈ lw_ok := lm5 (List.mem_of_getElem? (i := 148) (by decide +kernel)) rfl
theorem wd1173 : (.fieldLink RX12 194 "EnvelopeCardModel" "wordMost" "I" : Cond) ∈ lw_ok := lm5 (List.mem_of_getElem? (i := 149) (by decide +kernel)) rfl
theorem wd1174 : (.fieldLink RX12 197 "EnvelopeCardModel" "wordTimes" "I" : Cond) ∈ lw_ok := lm5 (List.mem_of_getElem? (i := 150) (by decide +kernel)) rfl
theorem wd1175 : (.fieldLink RX12 44 "EnvelopeCardModel" "aside" "[I" : Cond) ∈ lw_ok := lm5 (List.mem_of_getElem? (i := 151) (by decide +kernel)) rfl
theorem wd1176 : (.fieldLink RX12 170 "EnvelopeCardModel" "hour" "I" : Cond) ∈ lw_ok := lm5 (List.mem_of_getElem? (i := 152) (by decide +kernel)) rfl
theorem wd1177 : (.fieldLink RX12 206 "EnvelopeCardModel" "began" "I" : Cond) ∈ lw_ok := lm5 (List.mem_of_getElem? (i := 153) (by decide +kernel)) rfl
theorem wd1178 : (.fieldLink RX12 209 "EnvelopeCardModel" "rule" "I" : Cond) ∈ lw_ok := lm5 (List.mem_of_getElem? (i := 154) (by decide +kernel)) rfl
theorem wd1179 : (.fieldLink RX12 212 "EnvelopeCardModel" "place" "I" : Cond) ∈ lw_ok := lm5 (List.mem_of_getElem? (i := 155) (by decide +kernel)) rfl
theorem wd1180 : (.fieldLink RX12 215 "EnvelopeCardModel" "isBack" "Z" : Cond) ∈ lw_ok := lm5 (List.mem_of_getElem? (i := 156) (by decide +kernel)) rfl
theorem wd1181 : (.fieldLink RX12 219 "EnvelopeCardModel" "endPlace" "I" : Cond) ∈ lw_ok := lm5 (List.mem_of_getElem? (i := 157) (by decide +kernel)) rfl
theorem wd1182 : (.fieldLink RX12 222 "EnvelopeCardModel" "endDone" "I" : Cond) ∈ lw_ok := lm5 (List.mem_of_getElem? (i := 158) (by decide +kernel)) rfl
theorem wd1183 : (.fieldLink RX12 225 "EnvelopeCardModel" "endBack" "Z" : Cond) ∈ lw_ok := lm5 (List.mem_of_getElem? (i := 159) (by decide +kernel)) rfl
theorem wd1184 : (.fieldLink RX12 228 "EnvelopeCardModel" "endHeap" "I" : Cond) ∈ lw_ok := lm5 (List.mem_of_getElem? (i := 160) (by decide +kernel)) rfl
theorem wd1185 : (.fieldLink RX12 243 "EnvelopeCardModel" "endTo" "I" : Cond) ∈ lw_ok := lm5 (List.mem_of_getElem? (i := 161) (by decide +kernel)) rfl
theorem wd1186 : (.fieldLink RX12 47 "EnvelopeCardModel" "kept" "[I" : Cond) ∈ lw_ok := lm5 (List.mem_of_getElem? (i := 162) (by decide +kernel)) rfl
theorem wd1187 : (.fieldLink RX12 50 "EnvelopeCardModel" "weights" "[J" : Cond) ∈ lw_ok := lm5 (List.mem_of_getElem? (i := 163) (by decide +kernel)) rfl
theorem wd1188 : (.fieldLink RX12 54 "EnvelopeCardModel" "nextWeights" "[J" : Cond) ∈ lw_ok := lm5 (List.mem_of_getElem? (i := 164) (by decide +kernel)) rfl
theorem wd1189 : (.fieldLink RX12 263 "EnvelopeCardModel" "backWeight" "J" : Cond) ∈ lw_ok := lm5 (List.mem_of_getElem? (i := 165) (by decide +kernel)) rfl
theorem wd1190 : (.fieldLink RX12 266 "EnvelopeCardModel" "allWeight" "J" : Cond) ∈ lw_ok := lm5 (List.mem_of_getElem? (i := 166) (by decide +kernel)) rfl
theorem wd1191 : (.fieldLink RX12 304 "EnvelopeCardModel" "spanMost" "I" : Cond) ∈ lw_ok := lm5 (List.mem_of_getElem? (i := 167) (by decide +kernel)) rfl
theorem wd1192 : (.fieldLink RX12 307 "EnvelopeCardModel" "spanLeast" "I" : Cond) ∈ lw_ok := lm5 (List.mem_of_getElem? (i := 168) (by decide +kernel)) rfl
theorem wd1193 : (.fieldLink RX12 301 "EnvelopeCardModel" "isAny" "Z" : Cond) ∈ lw_ok := lm5 (List.mem_of_getElem? (i := 169) (by decide +kernel)) rfl
theorem wd1194 : (.fieldLink RX12 57 "EnvelopeCardModel" "laid" "[I" : Cond) ∈ lw_ok := lm5 (List.mem_of_getElem? (i := 170) (by decide +kernel)) rfl
theorem wd1195 : (.fieldLink RX12 60 "EnvelopeCardModel" "mostLaid" "[I" : Cond) ∈ lw_ok := lm5 (List.mem_of_getElem? (i := 171) (by decide +kernel)) rfl
theorem wd1196 : (.fieldLink RX12 322 "EnvelopeCardModel" "noneMany" "I" : Cond) ∈ lw_ok := lm5 (List.mem_of_getElem? (i := 172) (by decide +kernel)) rfl
theorem wd1197 : (.fieldLink RX12 325 "EnvelopeCardModel" "noneEach" "I" : Cond) ∈ lw_ok := lm5 (List.mem_of_getElem? (i := 173) (by decide +kernel)) rfl
theorem wd1198 : (.fieldLink RX12 328 "EnvelopeCardModel" "noneOf" "I" : Cond) ∈ lw_ok := lm5 (List.mem_of_getElem? (i := 174) (by decide +kernel)) rfl
theorem wd1199 : (.fieldLink RX12 63 "EnvelopeCardModel" "lineMany" "[I" : Cond) ∈ lw_ok := lm5 (List.mem_of_getElem? (i := 175) (by decide +kernel)) rfl
theorem wd1200 : (.fieldLink RX12 66 "EnvelopeCardModel" "lineUsed" "[I" : Cond) ∈ lw_ok := lm5 (List.mem_of_getElem? (i := 176) (by decide +kernel)) rfl
theorem wd1201 : (.fieldLink RX12 69 "EnvelopeCardModel" "years" "[I" : Cond) ∈ lw_ok := lm5 (List.mem_of_getElem? (i := 177) (by decide +kernel)) rfl
theorem wd1202 : (.fieldLink RX12 157 "EnvelopeCardModel" "yearMany" "I" : Cond) ∈ lw_ok := lm5 (List.mem_of_getElem? (i := 178) (by decide +kernel)) rfl
theorem wd1203 : (.fieldLink RX12 72 "EnvelopeCardModel" "yearGave" "[I" : Cond) ∈ lw_ok := lm5 (List.mem_of_getElem? (i := 179) (by decide +kernel)) rfl
theorem wd1204 : (.fieldLink RX12 75 "EnvelopeCardModel" "sums" "[I" : Cond) ∈ lw_ok := lm5 (List.mem_of_getElem? (i := 180) (by decide +kernel)) rfl
theorem wd1205 : (.fieldLink RX12 355 "EnvelopeCardModel" "h0" "J" : Cond) ∈ lw_ok := lm5 (List.mem_of_getElem? (i := 181) (by decide +kernel)) rfl
theorem wd1315 : (.methodLink RL 17 yX12_row : Cond) ∈ lw_ok := lm6 (List.mem_of_getElem? (i := 51) (by decide +kernel)) rfl
theorem wd1316 : (.instanceMethod yX12_row : Cond) ∈ lw_ok := lm6 (List.mem_of_getElem? (i := 52) (by decide +kernel)) rfl
theorem wd1317 : (.selects RX12 yX12_row yX12_row : Cond) ∈ lw_ok := lm6 (List.mem_of_getElem? (i := 53) (by decide +kernel)) rfl
theorem wd1318 : (.code yX12_row cX12_row 4 (some .int) : Cond) ∈ lw_ok := lm6 (List.mem_of_getElem? (i := 54) (by decide +kernel)) rfl
theorem wd1319 : (.methodLink RX12 92 yX12_isRow : Cond) ∈ lw_ok := lm6 (List.mem_of_getElem? (i := 55) (by decide +kernel)) rfl
theorem wd1320 : (.static yX12_isRow : Cond) ∈ lw_ok := lm6 (List.mem_of_getElem? (i := 56) (by decide +kernel)) rfl
theorem wd1321 : (.code yX12_isRow cX12_isRow 1 (some .boolean) : Cond) ∈ lw_ok := lm6 (List.mem_of_getElem? (i := 57) (by decide +kernel)) rfl
theorem wd1322 : (.methodLink RX12 88 yX12_in : Cond) ∈ lw_ok := lm6 (List.mem_of_getElem? (i := 58) (by decide +kernel)) rfl
theorem wd1323 : (.static yX12_in : Cond) ∈ lw_ok := lm6 (List.mem_of_getElem? (i := 59) (by decide +kernel)) rfl
theorem wd1324 : (.code yX12_in cX12_in 3 (some .boolean) : Cond) ∈ lw_ok := lm6 (List.mem_of_getElem? (i := 60) (by decide +kernel)) rfl
theorem wd1325 : (.methodLink RX12 96 yX12_meet : Cond) ∈ lw_ok := lm6 (List.mem_of_getElem? (i := 61) (by decide +kernel)) rfl
theorem wd1327 : (.instanceMethod yX12_meet : Cond) ∈ lw_ok := lm6 (List.mem_of_getElem? (i := 63) (by decide +kernel)) rfl
theorem wd1328 : (.code yX12_meet cX12_meet 2 (some .int) : Cond) ∈ lw_ok := lm6 (List.mem_of_getElem? (i := 64) (by decide +kernel)) rfl
theorem wd1329 : (.methodLink RX12 103 yX12_setRow : Cond) ∈ lw_ok := lm6 (List.mem_of_getElem? (i := 65) (by decide +kernel)) rfl
theorem wd1331 : (.instanceMethod yX12_setRow : Cond) ∈ lw_ok := lm6 (List.mem_of_getElem? (i := 67) (by decide +kernel)) rfl
theorem wd1332 : (.code yX12_setRow cX12_setRow 4 (none : Option Jvm.ClassFile.FieldType) : Cond) ∈ lw_ok := lm6 (List.mem_of_getElem? (i := 68) (by decide +kernel)) rfl
theorem wd1333 : (.methodLink RL 26 yX12_at : Cond) ∈ lw_ok := lm6 (List.mem_of_getElem? (i := 69) (by decide +kernel)) rfl
theorem wd1334 : (.instanceMethod yX12_at : Cond) ∈ lw_ok := lm6 (List.mem_of_getElem? (i := 70) (by decide +kernel)) rfl
theorem wd1335 : (.selects RX12 yX12_at yX12_at : Cond) ∈ lw_ok := lm6 (List.mem_of_getElem? (i := 71) (by decide +kernel)) rfl
theorem wd1336 : (.code yX12_at cX12_at 4 (some .int) : Cond) ∈ lw_ok := lm6 (List.mem_of_getElem? (i := 72) (by decide +kernel)) rfl
theorem wd1337 : (.methodLink RX12 107 yX12_askedRow : Cond) ∈ lw_ok := lm6 (List.mem_of_getElem? (i := 73) (by decide +kernel)) rfl
theorem wd1339 : (.instanceMethod yX12_askedRow : Cond) ∈ lw_ok := lm6 (List.mem_of_getElem? (i := 75) (by decide +kernel)) rfl
theorem wd1340 : (.code yX12_askedRow cX12_askedRow 2 (some .int) : Cond) ∈ lw_ok := lm6 (List.mem_of_getElem? (i := 76) (by decide +kernel)) rfl
theorem wd1341 : (.methodLink RX12 110 yX12_rowAt : Cond) ∈ lw_ok := lm6 (List.mem_of_getElem? (i := 77) (by decide +kernel)) rfl
theorem wd1343 : (.instanceMethod yX12_rowAt : Cond) ∈ lw_ok := lm6 (List.mem_of_getElem? (i := 79) (by decide +kernel)) rfl
theorem wd1344 : (.code yX12_rowAt cX12_rowAt 3 (some .int) : Cond) ∈ lw_ok := lm6 (List.mem_of_getElem? (i := 80) (by decide +kernel)) rfl
theorem wd1345 : (.methodLink RX12 114 yX12_say : Cond) ∈ lw_ok := lm6 (List.mem_of_getElem? (i := 81) (by decide +kernel)) rfl
theorem wd1347 : (.instanceMethod yX12_say : Cond) ∈ lw_ok := lm6 (List.mem_of_getElem? (i := 83) (by decide +kernel)) rfl
theorem wd1348 : (.code yX12_say cX12_say 3 (some .int) : Cond) ∈ lw_ok := lm6 (List.mem_of_getElem? (i := 84) (by decide +kernel)) rfl
theorem wd1349 : (.methodLink RL 22 yX12_lay : Cond) ∈ lw_ok := lm6 (List.mem_of_getElem? (i := 85) (by decide +kernel)) rfl
theorem wd1350 : (.instanceMethod yX12_lay : Cond) ∈ lw_ok := lm6 (List.mem_of_getElem? (i := 86) (by decide +kernel)) rfl
theorem wd1351 : (.selects RX12 yX12_lay yX12_lay : Cond) ∈ lw_ok := lm6 (List.mem_of_getElem? (i := 87) (by decide +kernel)) rfl
theorem wd1352 : (.code yX12_lay cX12_lay 5 (some .int) : Cond) ∈ lw_ok := lm6 (List.mem_of_getElem? (i := 88) (by decide +kernel)) rfl
theorem wd1353 : (.methodLink RX12 117 yX12_at : Cond) ∈ lw_ok := lm6 (List.mem_of_getElem? (i := 89) (by decide +kernel)) rfl
theorem wd1354 : (.methodLink RL 31 yX12_tear : Cond) ∈ lw_ok := lm6 (List.mem_of_getElem? (i := 90) (by decide +kernel)) rfl
theorem wd1355 : (.instanceMethod yX12_tear : Cond) ∈ lw_ok := lm6 (List.mem_of_getElem? (i := 91) (by decide +kernel)) rfl
theorem wd1356 : (.selects RX12 yX12_tear yX12_tear : Cond) ∈ lw_ok := lm6 (List.mem_of_getElem? (i := 92) (by decide +kernel)) rfl
theorem wd1357 : (.code yX12_tear cX12_tear 3 (some .int) : Cond) ∈ lw_ok := lm6 (List.mem_of_getElem? (i := 93) (by decide +kernel)) rfl
theorem wd1358 : (.methodLink RL 36 yX12_copy : Cond) ∈ lw_ok := lm6 (List.mem_of_getElem? (i := 94) (by decide +kernel)) rfl
theorem wd1359 : (.instanceMethod yX12_copy : Cond) ∈ lw_ok := lm6 (List.mem_of_getElem? (i := 95) (by decide +kernel)) rfl
theorem wd1360 : (.selects RX12 yX12_copy yX12_copy : Cond) ∈ lw_ok := lm6 (List.mem_of_getElem? (i := 96) (by decide +kernel)) rfl
theorem wd1361 : (.code yX12_copy cX12_copy 7 (some .int) : Cond) ∈ lw_ok := lm6 (List.mem_of_getElem? (i := 97) (by decide +kernel)) rfl
theorem wd1362 : (.methodLink RL 40 yX12_mean : Cond) ∈ lw_ok := lm6 (List.mem_of_getElem? (i := 98) (by decide +kernel)) rfl
theorem wd1363 : (.instanceMethod yX12_mean : Cond) ∈ lw_ok := lm6 (List.mem_of_getElem? (i := 99) (by decide +kernel)) rfl
theorem wd1364 : (.selects RX12 yX12_mean yX12_mean : Cond) ∈ lw_ok := lm6 (List.mem_of_getElem? (i := 100) (by decide +kernel)) rfl
theorem wd1365 : (.code yX12_mean cX12_mean 6 (some .int) : Cond) ∈ lw_ok := lm6 (List.mem_of_getElem? (i := 101) (by decide +kernel)) rfl
theorem wd1366 : (.methodLink RL 44 yX12_text : Cond) ∈ lw_ok := lm6 (List.mem_of_getElem? (i := 102) (by decide +kernel)) rfl
theorem wd1367 : (.instanceMethod yX12_text : Cond) ∈ lw_ok := lm6 (List.mem_of_getElem? (i := 103) (by decide +kernel)) rfl
theorem wd1368 : (.selects RX12 yX12_text yX12_text : Cond) ∈ lw_ok := lm6 (List.mem_of_getElem? (i := 104) (by decide +kernel)) rfl
theorem wd1369 : (.code yX12_text cX12_text 4 (some .int) : Cond) ∈ lw_ok := lm6 (List.mem_of_getElem? (i := 105) (by decide +kernel)) rfl
theorem wd1370 : (.methodLink RX12 100 yX12_isText : Cond) ∈ lw_ok := lm6 (List.mem_of_getElem? (i := 106) (by decide +kernel)) rfl
theorem wd1371 : (.static yX12_isText : Cond) ∈ lw_ok := lm6 (List.mem_of_getElem? (i := 107) (by decide +kernel)) rfl
theorem wd1372 : (.code yX12_isText cX12_isText 1 (some .boolean) : Cond) ∈ lw_ok := lm6 (List.mem_of_getElem? (i := 108) (by decide +kernel)) rfl
theorem wd1373 : (.methodLink RL 48 yX12_put : Cond) ∈ lw_ok := lm6 (List.mem_of_getElem? (i := 109) (by decide +kernel)) rfl
theorem wd1374 : (.instanceMethod yX12_put : Cond) ∈ lw_ok := lm6 (List.mem_of_getElem? (i := 110) (by decide +kernel)) rfl
theorem wd1375 : (.selects RX12 yX12_put yX12_put : Cond) ∈ lw_ok := lm6 (List.mem_of_getElem? (i := 111) (by decide +kernel)) rfl
theorem wd1376 : (.code yX12_put cX12_put 6 (some .int) : Cond) ∈ lw_ok := lm6 (List.mem_of_getElem? (i := 112) (by decide +kernel)) rfl
theorem wd1377 : (.methodLink RX12 120 yX12_askedText : Cond) ∈ lw_ok := lm6 (List.mem_of_getElem? (i := 113) (by decide +kernel)) rfl
theorem wd1379 : (.instanceMethod yX12_askedText : Cond) ∈ lw_ok := lm6 (List.mem_of_getElem? (i := 115) (by decide +kernel)) rfl
theorem wd1380 : (.code yX12_askedText cX12_askedText 2 (some .int) : Cond) ∈ lw_ok := lm6 (List.mem_of_getElem? (i := 116) (by decide +kernel)) rfl
theorem wd1381 : (.methodLink RL 52 yX12_fault : Cond) ∈ lw_ok := lm6 (List.mem_of_getElem? (i := 117) (by decide +kernel)) rfl
theorem wd1382 : (.instanceMethod yX12_fault : Cond) ∈ lw_ok := lm6 (List.mem_of_getElem? (i := 118) (by decide +kernel)) rfl
theorem wd1383 : (.selects RX12 yX12_fault yX12_fault : Cond) ∈ lw_ok := lm6 (List.mem_of_getElem? (i := 119) (by decide +kernel)) rfl
theorem wd1384 : (.code yX12_fault cX12_fault 3 (some .int) : Cond) ∈ lw_ok := lm6 (List.mem_of_getElem? (i := 120) (by decide +kernel)) rfl
theorem wd1385 : (.methodLink RX12 138 yX12_goesOn : Cond) ∈ lw_ok := lm6 (List.mem_of_getElem? (i := 121) (by decide +kernel)) rfl
theorem wd1387 : (.instanceMethod yX12_goesOn : Cond) ∈ lw_ok := lm6 (List.mem_of_getElem? (i := 123) (by decide +kernel)) rfl
theorem wd1388 : (.code yX12_goesOn cX12_goesOn 2 (some .int) : Cond) ∈ lw_ok := lm6 (List.mem_of_getElem? (i := 124) (by decide +kernel)) rfl
theorem wd1389 : (.methodLink RX12 126 yX12_here : Cond) ∈ lw_ok := lm6 (List.mem_of_getElem? (i := 125) (by decide +kernel)) rfl
theorem wd1391 : (.instanceMethod yX12_here : Cond) ∈ lw_ok := lm6 (List.mem_of_getElem? (i := 127) (by decide +kernel)) rfl
theorem wd1392 : (.code yX12_here cX12_here 2 (some .int) : Cond) ∈ lw_ok := lm6 (List.mem_of_getElem? (i := 128) (by decide +kernel)) rfl
theorem wd1393 : (.methodLink RX12 135 yX12_readsDesk : Cond) ∈ lw_ok := lm6 (List.mem_of_getElem? (i := 129) (by decide +kernel)) rfl
theorem wd1395 : (.instanceMethod yX12_readsDesk : Cond) ∈ lw_ok := lm6 (List.mem_of_getElem? (i := 131) (by decide +kernel)) rfl
theorem wd1396 : (.code yX12_readsDesk cX12_readsDesk 7 (some .boolean) : Cond) ∈ lw_ok := lm6 (List.mem_of_getElem? (i := 132) (by decide +kernel)) rfl
theorem wd1397 : (.methodLink RX12 129 yX12_kindOf : Cond) ∈ lw_ok := lm6 (List.mem_of_getElem? (i := 133) (by decide +kernel)) rfl
theorem wd1398 : (.static yX12_kindOf : Cond) ∈ lw_ok := lm6 (List.mem_of_getElem? (i := 134) (by decide +kernel)) rfl
theorem wd1399 : (.code yX12_kindOf cX12_kindOf 1 (some .int) : Cond) ∈ lw_ok := lm6 (List.mem_of_getElem? (i := 135) (by decide +kernel)) rfl
theorem wd1400 : (.methodLink RL 56 yX12_office : Cond) ∈ lw_ok := lm6 (List.mem_of_getElem? (i := 136) (by decide +kernel)) rfl
theorem wd1401 : (.instanceMethod yX12_office : Cond) ∈ lw_ok := lm6 (List.mem_of_getElem? (i := 137) (by decide +kernel)) rfl
theorem wd1402 : (.selects RX12 yX12_office yX12_office : Cond) ∈ lw_ok := lm6 (List.mem_of_getElem? (i := 138) (by decide +kernel)) rfl
theorem wd1403 : (.code yX12_office cX12_office 4 (some .int) : Cond) ∈ lw_ok := lm6 (List.mem_of_getElem? (i := 139) (by decide +kernel)) rfl
theorem wd1404 : (.methodLink RX12 153 yX12_starts0 : Cond) ∈ lw_ok := lm6 (List.mem_of_getElem? (i := 140) (by decide +kernel)) rfl
theorem wd1406 : (.instanceMethod yX12_starts0 : Cond) ∈ lw_ok := lm6 (List.mem_of_getElem? (i := 142) (by decide +kernel)) rfl
theorem wd1407 : (.code yX12_starts0 cX12_starts0 3 (none : Option Jvm.ClassFile.FieldType) : Cond) ∈ lw_ok := lm6 (List.mem_of_getElem? (i := 143) (by decide +kernel)) rfl
theorem wd1408 : (.methodLink RL 60 yX12_desk : Cond) ∈ lw_ok := lm6 (List.mem_of_getElem? (i := 144) (by decide +kernel)) rfl
theorem wd1409 : (.instanceMethod yX12_desk : Cond) ∈ lw_ok := lm6 (List.mem_of_getElem? (i := 145) (by decide +kernel)) rfl
theorem wd1410 : (.selects RX12 yX12_desk yX12_desk : Cond) ∈ lw_ok := lm6 (List.mem_of_getElem? (i := 146) (by decide +kernel)) rfl
theorem wd1411 : (.code yX12_desk cX12_desk 3 (some .int) : Cond) ∈ lw_ok := lm6 (List.mem_of_getElem? (i := 147) (by decide +kernel)) rfl
theorem wd1412 : (.methodLink RX12 160 yX12_isDesk : Cond) ∈ lw_ok := lm6 (List.mem_of_getElem? (i := 148) (by decide +kernel)) rfl
theorem wd1414 : (.instanceMethod yX12_isDesk : Cond) ∈ lw_ok := lm6 (List.mem_of_getElem? (i := 150) (by decide +kernel)) rfl
theorem wd1415 : (.code yX12_isDesk cX12_isDesk 2 (some .boolean) : Cond) ∈ lw_ok := lm6 (List.mem_of_getElem? (i := 151) (by decide +kernel)) rfl
theorem wd1416 : (.methodLink RX12 163 yX12_of : Cond) ∈ lw_ok := lm6 (List.mem_of_getElem? (i := 152) (by decide +kernel)) rfl
theorem wd1418 : (.instanceMethod yX12_of : Cond) ∈ lw_ok := lm6 (List.mem_of_getElem? (i := 154) (by decide +kernel)) rfl
theorem wd1419 : (.code yX12_of cX12_of 3 (some .int) : Cond) ∈ lw_ok := lm6 (List.mem_of_getElem? (i := 155) (by decide +kernel)) rfl
theorem wd1420 : (.methodLink RL 64 yX12_mark : Cond) ∈ lw_ok := lm6 (List.mem_of_getElem? (i := 156) (by decide +kernel)) rfl
theorem wd1421 : (.instanceMethod yX12_mark : Cond) ∈ lw_ok := lm6 (List.mem_of_getElem? (i := 157) (by decide +kernel)) rfl
theorem wd1422 : (.selects RX12 yX12_mark yX12_mark : Cond) ∈ lw_ok := lm6 (List.mem_of_getElem? (i := 158) (by decide +kernel)) rfl
theorem wd1423 : (.code yX12_mark cX12_mark 3 (some .int) : Cond) ∈ lw_ok := lm6 (List.mem_of_getElem? (i := 159) (by decide +kernel)) rfl
theorem wd1424 : (.methodLink RX12 166 yX12_isA : Cond) ∈ lw_ok := lm6 (List.mem_of_getElem? (i := 160) (by decide +kernel)) rfl
theorem wd1426 : (.instanceMethod yX12_isA : Cond) ∈ lw_ok := lm6 (List.mem_of_getElem? (i := 162) (by decide +kernel)) rfl
theorem wd1427 : (.code yX12_isA cX12_isA 3 (some .boolean) : Cond) ∈ lw_ok := lm6 (List.mem_of_getElem? (i := 163) (by decide +kernel)) rfl
theorem wd1428 : (.methodLink RX12 173 yX12_isAway : Cond) ∈ lw_ok := lm6 (List.mem_of_getElem? (i := 164) (by decide +kernel)) rfl
theorem wd1430 : (.instanceMethod yX12_isAway : Cond) ∈ lw_ok := lm6 (List.mem_of_getElem? (i := 166) (by decide +kernel)) rfl
theorem wd1431 : (.code yX12_isAway cX12_isAway 3 (some .boolean) : Cond) ∈ lw_ok := lm6 (List.mem_of_getElem? (i := 167) (by decide +kernel)) rfl
theorem wd1432 : (.methodLink RX12 176 yX12_wordOf : Cond) ∈ lw_ok := lm6 (List.mem_of_getElem? (i := 168) (by decide +kernel)) rfl
theorem wd1434 : (.instanceMethod yX12_wordOf : Cond) ∈ lw_ok := lm6 (List.mem_of_getElem? (i := 170) (by decide +kernel)) rfl
theorem wd1435 : (.code yX12_wordOf cX12_wordOf 2 (some .int) : Cond) ∈ lw_ok := lm6 (List.mem_of_getElem? (i := 171) (by decide +kernel)) rfl
theorem wd1436 : (.methodLink RX12 200 yX12_countWords : Cond) ∈ lw_ok := lm6 (List.mem_of_getElem? (i := 172) (by decide +kernel)) rfl
theorem wd1438 : (.instanceMethod yX12_countWords : Cond) ∈ lw_ok := lm6 (List.mem_of_getElem? (i := 174) (by decide +kernel)) rfl
theorem wd1439 : (.code yX12_countWords cX12_countWords 4 (none : Option Jvm.ClassFile.FieldType) : Cond) ∈ lw_ok := lm6 (List.mem_of_getElem? (i := 175) (by decide +kernel)) rfl
theorem wd1440 : (.methodLink RX12 191 yX12_has : Cond) ∈ lw_ok := lm6 (List.mem_of_getElem? (i := 176) (by decide +kernel)) rfl
theorem wd1441 : (.static yX12_has : Cond) ∈ lw_ok := lm6 (List.mem_of_getElem? (i := 177) (by decide +kernel)) rfl
theorem wd1442 : (.code yX12_has cX12_has 2 (some .boolean) : Cond) ∈ lw_ok := lm6 (List.mem_of_getElem? (i := 178) (by decide +kernel)) rfl
theorem wd1443 : (.methodLink RX12 179 yX12_ownOf : Cond) ∈ lw_ok := lm6 (List.mem_of_getElem? (i := 179) (by decide +kernel)) rfl
theorem wd1445 : (.instanceMethod yX12_ownOf : Cond) ∈ lw_ok := lm6 (List.mem_of_getElem? (i := 181) (by decide +kernel)) rfl
theorem wd1446 : (.code yX12_ownOf cX12_ownOf 6 (some .int) : Cond) ∈ lw_ok := lm6 (List.mem_of_getElem? (i := 182) (by decide +kernel)) rfl
theorem wd1447 : (.methodLink RX12 182 yX12_namedOf : Cond) ∈ lw_ok := lm6 (List.mem_of_getElem? (i := 183) (by decide +kernel)) rfl
theorem wd1449 : (.instanceMethod yX12_namedOf : Cond) ∈ lw_ok := lm6 (List.mem_of_getElem? (i := 185) (by decide +kernel)) rfl
theorem wd1450 : (.code yX12_namedOf cX12_namedOf 2 (some .int) : Cond) ∈ lw_ok := lm6 (List.mem_of_getElem? (i := 186) (by decide +kernel)) rfl
theorem wd1451 : (.methodLink RX12 185 yX12_linkedTo : Cond) ∈ lw_ok := lm6 (List.mem_of_getElem? (i := 187) (by decide +kernel)) rfl
theorem wd1453 : (.instanceMethod yX12_linkedTo : Cond) ∈ lw_ok := lm6 (List.mem_of_getElem? (i := 189) (by decide +kernel)) rfl
theorem wd1454 : (.code yX12_linkedTo cX12_linkedTo 4 (some .int) : Cond) ∈ lw_ok := lm6 (List.mem_of_getElem? (i := 190) (by decide +kernel)) rfl
theorem wd1455 : (.methodLink RL 68 yX12_law : Cond) ∈ lw_ok := lm6 (List.mem_of_getElem? (i := 191) (by decide +kernel)) rfl
theorem wd1456 : (.instanceMethod yX12_law : Cond) ∈ lw_ok := lm6 (List.mem_of_getElem? (i := 192) (by decide +kernel)) rfl
theorem wd1457 : (.selects RX12 yX12_law yX12_law : Cond) ∈ lw_ok := lm6 (List.mem_of_getElem? (i := 193) (by decide +kernel)) rfl
theorem wd1458 : (.code yX12_law cX12_law 3 (some .int) : Cond) ∈ lw_ok := lm6 (List.mem_of_getElem? (i := 194) (by decide +kernel)) rfl
theorem wd1459 : (.methodLink RL 72 yX12_name : Cond) ∈ lw_ok := lm6 (List.mem_of_getElem? (i := 195) (by decide +kernel)) rfl
theorem wd1460 : (.instanceMethod yX12_name : Cond) ∈ lw_ok := lm6 (List.mem_of_getElem? (i := 196) (by decide +kernel)) rfl
theorem wd1461 : (.selects RX12 yX12_name yX12_name : Cond) ∈ lw_ok := lm6 (List.mem_of_getElem? (i := 197) (by decide +kernel)) rfl
theorem wd1462 : (.code yX12_name cX12_name 3 (some .int) : Cond) ∈ lw_ok := lm6 (List.mem_of_getElem? (i := 198) (by decide +kernel)) rfl
theorem wd1463 : (.methodLink RL 76 yX12_link : Cond) ∈ lw_ok := lm6 (List.mem_of_getElem? (i := 199) (by decide +kernel)) rfl
theorem wd1464 : (.instanceMethod yX12_link : Cond) ∈ lw_ok := lm6 (List.mem_of_getElem? (i := 200) (by decide +kernel)) rfl
theorem wd1465 : (.selects RX12 yX12_link yX12_link : Cond) ∈ lw_ok := lm6 (List.mem_of_getElem? (i := 201) (by decide +kernel)) rfl
theorem wd1466 : (.code yX12_link cX12_link 3 (some .int) : Cond) ∈ lw_ok := lm6 (List.mem_of_getElem? (i := 202) (by decide +kernel)) rfl
theorem wd1467 : (.methodLink RL 80 yX12_begin : Cond) ∈ lw_ok := lm6 (List.mem_of_getElem? (i := 203) (by decide +kernel)) rfl
theorem wd1468 : (.instanceMethod yX12_begin : Cond) ∈ lw_ok := lm6 (List.mem_of_getElem? (i := 204) (by decide +kernel)) rfl
theorem wd1469 : (.selects RX12 yX12_begin yX12_begin : Cond) ∈ lw_ok := lm6 (List.mem_of_getElem? (i := 205) (by decide +kernel)) rfl
theorem wd1470 : (.code yX12_begin cX12_begin 3 (some .int) : Cond) ∈ lw_ok := lm6 (List.mem_of_getElem? (i := 206) (by decide +kernel)) rfl
theorem wd1471 : (.methodLink RL 84 yX12_go : Cond) ∈ lw_ok := lm6 (List.mem_of_getElem? (i := 207) (by decide +kernel)) rfl
theorem wd1472 : (.instanceMethod yX12_go : Cond) ∈ lw_ok := lm6 (List.mem_of_getElem? (i := 208) (by decide +kernel)) rfl
theorem wd1473 : (.selects RX12 yX12_go yX12_go : Cond) ∈ lw_ok := lm6 (List.mem_of_getElem? (i := 209) (by decide +kernel)) rfl
theorem wd1474 : (.code yX12_go cX12_go 6 (some .int) : Cond) ∈ lw_ok := lm6 (List.mem_of_getElem? (i := 210) (by decide +kernel)) rfl
theorem wd1475 : (.constant RX12 246 (2147483646) : Cond) ∈ lw_ok := lm6 (List.mem_of_getElem? (i := 211) (by decide +kernel)) rfl
theorem wd1476 : (.methodLink RX12 247 yX12_passHour : Cond) ∈ lw_ok := lm6 (List.mem_of_getElem? (i := 212) (by decide +kernel)) rfl
theorem wd1478 : (.instanceMethod yX12_passHour : Cond) ∈ lw_ok := lm6 (List.mem_of_getElem? (i := 214) (by decide +kernel)) rfl
theorem wd1479 : (.code yX12_passHour cX12_passHour 10 (none : Option Jvm.ClassFile.FieldType) : Cond) ∈ lw_ok := lm6 (List.mem_of_getElem? (i := 215) (by decide +kernel)) rfl
theorem wd1480 : (.methodLink RX12 231 yX12_puts : Cond) ∈ lw_ok := lm6 (List.mem_of_getElem? (i := 216) (by decide +kernel)) rfl
theorem wd1482 : (.instanceMethod yX12_puts : Cond) ∈ lw_ok := lm6 (List.mem_of_getElem? (i := 218) (by decide +kernel)) rfl
theorem wd1483 : (.code yX12_puts cX12_puts 4 (none : Option Jvm.ClassFile.FieldType) : Cond) ∈ lw_ok := lm6 (List.mem_of_getElem? (i := 219) (by decide +kernel)) rfl
theorem wd1484 : (.methodLink RX12 203 yX12_givesOf : Cond) ∈ lw_ok := lm6 (List.mem_of_getElem? (i := 220) (by decide +kernel)) rfl
theorem wd1486 : (.instanceMethod yX12_givesOf : Cond) ∈ lw_ok := lm6 (List.mem_of_getElem? (i := 222) (by decide +kernel)) rfl
theorem wd1487 : (.code yX12_givesOf cX12_givesOf 2 (some .int) : Cond) ∈ lw_ok := lm6 (List.mem_of_getElem? (i := 223) (by decide +kernel)) rfl
theorem wd1488 : (.methodLink RX12 235 yX12_nextOf : Cond) ∈ lw_ok := lm6 (List.mem_of_getElem? (i := 224) (by decide +kernel)) rfl
theorem wd1490 : (.instanceMethod yX12_nextOf : Cond) ∈ lw_ok := lm6 (List.mem_of_getElem? (i := 226) (by decide +kernel)) rfl
theorem wd1491 : (.code yX12_nextOf cX12_nextOf 10 (some .int) : Cond) ∈ lw_ok := lm6 (List.mem_of_getElem? (i := 227) (by decide +kernel)) rfl
theorem wd1492 : (.methodLink RX12 239 yX12_all : Cond) ∈ lw_ok := lm6 (List.mem_of_getElem? (i := 228) (by decide +kernel)) rfl
theorem wd1494 : (.instanceMethod yX12_all : Cond) ∈ lw_ok := lm6 (List.mem_of_getElem? (i := 230) (by decide +kernel)) rfl
theorem wd1495 : (.code yX12_all cX12_all 1 (some .int) : Cond) ∈ lw_ok := lm6 (List.mem_of_getElem? (i := 231) (by decide +kernel)) rfl
theorem wd1496 : (.constantLong RX12 251 (48271) : Cond) ∈ lw_ok := lm6 (List.mem_of_getElem? (i := 232) (by decide +kernel)) rfl
theorem wd1497 : (.constantLong RX12 253 (2147483647) : Cond) ∈ lw_ok := lm6 (List.mem_of_getElem? (i := 233) (by decide +kernel)) rfl
theorem wd1498 : (.constantLong RX12 255 (12) : Cond) ∈ lw_ok := lm6 (List.mem_of_getElem? (i := 234) (by decide +kernel)) rfl
theorem wd1499 : (.methodLink RL 89 yX12_where : Cond) ∈ lw_ok := lm6 (List.mem_of_getElem? (i := 235) (by decide +kernel)) rfl
theorem wd1500 : (.instanceMethod yX12_where : Cond) ∈ lw_ok := lm6 (List.mem_of_getElem? (i := 236) (by decide +kernel)) rfl
theorem wd1501 : (.selects RX12 yX12_where yX12_where : Cond) ∈ lw_ok := lm6 (List.mem_of_getElem? (i := 237) (by decide +kernel)) rfl
theorem wd1502 : (.code yX12_where cX12_where 1 (some .int) : Cond) ∈ lw_ok := lm6 (List.mem_of_getElem? (i := 238) (by decide +kernel)) rfl
theorem wd1503 : (.methodLink RL 93 yX12_told : Cond) ∈ lw_ok := lm6 (List.mem_of_getElem? (i := 239) (by decide +kernel)) rfl
theorem wd1504 : (.instanceMethod yX12_told : Cond) ∈ lw_ok := lm7 (List.mem_of_getElem? (i := 0) (by decide +kernel)) rfl
theorem wd1505 : (.selects RX12 yX12_told yX12_told : Cond) ∈ lw_ok := lm7 (List.mem_of_getElem? (i := 1) (by decide +kernel)) rfl
theorem wd1506 : (.code yX12_told cX12_told 3 (some .int) : Cond) ∈ lw_ok := lm7 (List.mem_of_getElem? (i := 2) (by decide +kernel)) rfl
theorem wd1507 : (.methodLink RX12 257 yX12_toldOf : Cond) ∈ lw_ok := lm7 (List.mem_of_getElem? (i := 3) (by decide +kernel)) rfl
theorem wd1509 : (.instanceMethod yX12_toldOf : Cond) ∈ lw_ok := lm7 (List.mem_of_getElem? (i := 5) (by decide +kernel)) rfl
theorem wd1510 : (.code yX12_toldOf cX12_toldOf 4 (some .int) : Cond) ∈ lw_ok := lm7 (List.mem_of_getElem? (i := 6) (by decide +kernel)) rfl
theorem wd1511 : (.methodLink RL 97 yX12_coins : Cond) ∈ lw_ok := lm7 (List.mem_of_getElem? (i := 7) (by decide +kernel)) rfl
theorem wd1512 : (.instanceMethod yX12_coins : Cond) ∈ lw_ok := lm7 (List.mem_of_getElem? (i := 8) (by decide +kernel)) rfl
theorem wd1513 : (.selects RX12 yX12_coins yX12_coins : Cond) ∈ lw_ok := lm7 (List.mem_of_getElem? (i := 9) (by decide +kernel)) rfl
theorem wd1514 : (.code yX12_coins cX12_coins 3 (some .int) : Cond) ∈ lw_ok := lm7 (List.mem_of_getElem? (i := 10) (by decide +kernel)) rfl
theorem wd1515 : (.methodLink RX12 260 yX12_coinsNow : Cond) ∈ lw_ok := lm7 (List.mem_of_getElem? (i := 11) (by decide +kernel)) rfl
theorem wd1517 : (.instanceMethod yX12_coinsNow : Cond) ∈ lw_ok := lm7 (List.mem_of_getElem? (i := 13) (by decide +kernel)) rfl
theorem wd1518 : (.code yX12_coinsNow cX12_coinsNow 3 (some .int) : Cond) ∈ lw_ok := lm7 (List.mem_of_getElem? (i := 14) (by decide +kernel)) rfl
theorem wd1519 : (.methodLink RL 101 yX12_words : Cond) ∈ lw_ok := lm7 (List.mem_of_getElem? (i := 15) (by decide +kernel)) rfl
theorem wd1520 : (.instanceMethod yX12_words : Cond) ∈ lw_ok := lm7 (List.mem_of_getElem? (i := 16) (by decide +kernel)) rfl
theorem wd1521 : (.selects RX12 yX12_words yX12_words : Cond) ∈ lw_ok := lm7 (List.mem_of_getElem? (i := 17) (by decide +kernel)) rfl
theorem wd1522 : (.code yX12_words cX12_words 1 (some .int) : Cond) ∈ lw_ok := lm7 (List.mem_of_getElem? (i := 18) (by decide +kernel)) rfl
theorem wd1523 : (.methodLink RL 105 yX12_next : Cond) ∈ lw_ok := lm7 (List.mem_of_getElem? (i := 19) (by decide +kernel)) rfl
theorem wd1524 : (.instanceMethod yX12_next : Cond) ∈ lw_ok := lm7 (List.mem_of_getElem? (i := 20) (by decide +kernel)) rfl
theorem wd1525 : (.selects RX12 yX12_next yX12_next : Cond) ∈ lw_ok := lm7 (List.mem_of_getElem? (i := 21) (by decide +kernel)) rfl
theorem wd1526 : (.code yX12_next cX12_next 3 (some .int) : Cond) ∈ lw_ok := lm7 (List.mem_of_getElem? (i := 22) (by decide +kernel)) rfl
theorem wd1527 : (.methodLink RL 109 yX12_keep : Cond) ∈ lw_ok := lm7 (List.mem_of_getElem? (i := 23) (by decide +kernel)) rfl
theorem wd1528 : (.instanceMethod yX12_keep : Cond) ∈ lw_ok := lm7 (List.mem_of_getElem? (i := 24) (by decide +kernel)) rfl
theorem wd1529 : (.selects RX12 yX12_keep yX12_keep : Cond) ∈ lw_ok := lm7 (List.mem_of_getElem? (i := 25) (by decide +kernel)) rfl
theorem wd1530 : (.code yX12_keep cX12_keep 4 (some .int) : Cond) ∈ lw_ok := lm7 (List.mem_of_getElem? (i := 26) (by decide +kernel)) rfl
theorem wd1531 : (.methodLink RL 113 yX12_on : Cond) ∈ lw_ok := lm7 (List.mem_of_getElem? (i := 27) (by decide +kernel)) rfl
theorem wd1532 : (.instanceMethod yX12_on : Cond) ∈ lw_ok := lm7 (List.mem_of_getElem? (i := 28) (by decide +kernel)) rfl
theorem wd1533 : (.selects RX12 yX12_on yX12_on : Cond) ∈ lw_ok := lm7 (List.mem_of_getElem? (i := 29) (by decide +kernel)) rfl
theorem wd1534 : (.code yX12_on cX12_on 4 (some .int) : Cond) ∈ lw_ok := lm7 (List.mem_of_getElem? (i := 30) (by decide +kernel)) rfl
theorem wd1535 : (.methodLink RL 117 yX12_friday : Cond) ∈ lw_ok := lm7 (List.mem_of_getElem? (i := 31) (by decide +kernel)) rfl
theorem wd1536 : (.instanceMethod yX12_friday : Cond) ∈ lw_ok := lm7 (List.mem_of_getElem? (i := 32) (by decide +kernel)) rfl
theorem wd1537 : (.selects RX12 yX12_friday yX12_friday : Cond) ∈ lw_ok := lm7 (List.mem_of_getElem? (i := 33) (by decide +kernel)) rfl
theorem wd1538 : (.code yX12_friday cX12_friday 2 (some .int) : Cond) ∈ lw_ok := lm7 (List.mem_of_getElem? (i := 34) (by decide +kernel)) rfl
theorem wd1539 : (.methodLink RX12 272 yX12_setOdds : Cond) ∈ lw_ok := lm7 (List.mem_of_getElem? (i := 35) (by decide +kernel)) rfl
theorem wd1541 : (.instanceMethod yX12_setOdds : Cond) ∈ lw_ok := lm7 (List.mem_of_getElem? (i := 37) (by decide +kernel)) rfl
theorem wd1542 : (.code yX12_setOdds cX12_setOdds 9 (none : Option Jvm.ClassFile.FieldType) : Cond) ∈ lw_ok := lm7 (List.mem_of_getElem? (i := 38) (by decide +kernel)) rfl
theorem wd1543 : (.methodLink RX12 269 yX12_addHour : Cond) ∈ lw_ok := lm7 (List.mem_of_getElem? (i := 39) (by decide +kernel)) rfl
theorem wd1545 : (.instanceMethod yX12_addHour : Cond) ∈ lw_ok := lm7 (List.mem_of_getElem? (i := 41) (by decide +kernel)) rfl
theorem wd1546 : (.code yX12_addHour cX12_addHour 7 (none : Option Jvm.ClassFile.FieldType) : Cond) ∈ lw_ok := lm7 (List.mem_of_getElem? (i := 42) (by decide +kernel)) rfl
theorem wd1547 : (.methodLink RX12 276 yX12_part : Cond) ∈ lw_ok := lm7 (List.mem_of_getElem? (i := 43) (by decide +kernel)) rfl
theorem wd1549 : (.instanceMethod yX12_part : Cond) ∈ lw_ok := lm7 (List.mem_of_getElem? (i := 45) (by decide +kernel)) rfl
theorem wd1550 : (.code yX12_part cX12_part 12 (some .int) : Cond) ∈ lw_ok := lm7 (List.mem_of_getElem? (i := 46) (by decide +kernel)) rfl
theorem wd1551 : (.methodLink RL 121 yX12_odds : Cond) ∈ lw_ok := lm7 (List.mem_of_getElem? (i := 47) (by decide +kernel)) rfl
theorem wd1552 : (.instanceMethod yX12_odds : Cond) ∈ lw_ok := lm7 (List.mem_of_getElem? (i := 48) (by decide +kernel)) rfl
theorem wd1553 : (.selects RX12 yX12_odds yX12_odds : Cond) ∈ lw_ok := lm7 (List.mem_of_getElem? (i := 49) (by decide +kernel)) rfl
theorem wd1554 : (.code yX12_odds cX12_odds 3 (some .int) : Cond) ∈ lw_ok := lm7 (List.mem_of_getElem? (i := 50) (by decide +kernel)) rfl
theorem wd1555 : (.methodLink RX12 280 yX12_weightAt : Cond) ∈ lw_ok := lm7 (List.mem_of_getElem? (i := 51) (by decide +kernel)) rfl
theorem wd1557 : (.instanceMethod yX12_weightAt : Cond) ∈ lw_ok := lm7 (List.mem_of_getElem? (i := 53) (by decide +kernel)) rfl
theorem wd1558 : (.code yX12_weightAt cX12_weightAt 5 (some .long) : Cond) ∈ lw_ok := lm7 (List.mem_of_getElem? (i := 54) (by decide +kernel)) rfl
theorem wd1559 : (.methodLink RL 125 yX12_ask : Cond) ∈ lw_ok := lm7 (List.mem_of_getElem? (i := 55) (by decide +kernel)) rfl
theorem wd1560 : (.instanceMethod yX12_ask : Cond) ∈ lw_ok := lm7 (List.mem_of_getElem? (i := 56) (by decide +kernel)) rfl
theorem wd1561 : (.selects RX12 yX12_ask yX12_ask : Cond) ∈ lw_ok := lm7 (List.mem_of_getElem? (i := 57) (by decide +kernel)) rfl
theorem wd1562 : (.code yX12_ask cX12_ask 10 (some .int) : Cond) ∈ lw_ok := lm7 (List.mem_of_getElem? (i := 58) (by decide +kernel)) rfl
theorem wd1563 : (.methodLink RL 129 yX12_rule : Cond) ∈ lw_ok := lm7 (List.mem_of_getElem? (i := 59) (by decide +kernel)) rfl
theorem wd1564 : (.instanceMethod yX12_rule : Cond) ∈ lw_ok := lm7 (List.mem_of_getElem? (i := 60) (by decide +kernel)) rfl
theorem wd1565 : (.selects RX12 yX12_rule yX12_rule : Cond) ∈ lw_ok := lm7 (List.mem_of_getElem? (i := 61) (by decide +kernel)) rfl
theorem wd1566 : (.code yX12_rule cX12_rule 8 (some .int) : Cond) ∈ lw_ok := lm7 (List.mem_of_getElem? (i := 62) (by decide +kernel)) rfl
theorem wd1567 : (.constantLong RX12 284 (-1) : Cond) ∈ lw_ok := lm7 (List.mem_of_getElem? (i := 63) (by decide +kernel)) rfl
theorem wd1568 : (.methodLink RL 133 yX12_order : Cond) ∈ lw_ok := lm7 (List.mem_of_getElem? (i := 64) (by decide +kernel)) rfl
theorem wd1569 : (.instanceMethod yX12_order : Cond) ∈ lw_ok := lm7 (List.mem_of_getElem? (i := 65) (by decide +kernel)) rfl
theorem wd1570 : (.selects RX12 yX12_order yX12_order : Cond) ∈ lw_ok := lm7 (List.mem_of_getElem? (i := 66) (by decide +kernel)) rfl
theorem wd1571 : (.code yX12_order cX12_order 3 (some .int) : Cond) ∈ lw_ok := lm7 (List.mem_of_getElem? (i := 67) (by decide +kernel)) rfl
theorem wd1572 : (.methodLink RX12 295 yX12_askedOrder : Cond) ∈ lw_ok := lm7 (List.mem_of_getElem? (i := 68) (by decide +kernel)) rfl
theorem wd1574 : (.instanceMethod yX12_askedOrder : Cond) ∈ lw_ok := lm7 (List.mem_of_getElem? (i := 70) (by decide +kernel)) rfl
theorem wd1575 : (.code yX12_askedOrder cX12_askedOrder 6 (some .int) : Cond) ∈ lw_ok := lm7 (List.mem_of_getElem? (i := 71) (by decide +kernel)) rfl
theorem wd1576 : (.methodLink RX12 298 yX12_sumBy : Cond) ∈ lw_ok := lm7 (List.mem_of_getElem? (i := 72) (by decide +kernel)) rfl
theorem wd1578 : (.instanceMethod yX12_sumBy : Cond) ∈ lw_ok := lm7 (List.mem_of_getElem? (i := 74) (by decide +kernel)) rfl
theorem wd1579 : (.code yX12_sumBy cX12_sumBy 3 (some .int) : Cond) ∈ lw_ok := lm7 (List.mem_of_getElem? (i := 75) (by decide +kernel)) rfl
theorem wd1580 : (.methodLink RX12 286 yX12_putAside : Cond) ∈ lw_ok := lm7 (List.mem_of_getElem? (i := 76) (by decide +kernel)) rfl
theorem wd1582 : (.instanceMethod yX12_putAside : Cond) ∈ lw_ok := lm7 (List.mem_of_getElem? (i := 78) (by decide +kernel)) rfl
theorem wd1583 : (.code yX12_putAside cX12_putAside 2 (none : Option Jvm.ClassFile.FieldType) : Cond) ∈ lw_ok := lm7 (List.mem_of_getElem? (i := 79) (by decide +kernel)) rfl
theorem wd1584 : (.methodLink RX12 289 yX12_putsRow : Cond) ∈ lw_ok := lm7 (List.mem_of_getElem? (i := 80) (by decide +kernel)) rfl
theorem wd1586 : (.instanceMethod yX12_putsRow : Cond) ∈ lw_ok := lm7 (List.mem_of_getElem? (i := 82) (by decide +kernel)) rfl
theorem wd1587 : (.code yX12_putsRow cX12_putsRow 4 (some .int) : Cond) ∈ lw_ok := lm7 (List.mem_of_getElem? (i := 83) (by decide +kernel)) rfl
theorem wd1588 : (.methodLink RX12 292 yX12_comeBack : Cond) ∈ lw_ok := lm7 (List.mem_of_getElem? (i := 84) (by decide +kernel)) rfl
theorem wd1590 : (.instanceMethod yX12_comeBack : Cond) ∈ lw_ok := lm7 (List.mem_of_getElem? (i := 86) (by decide +kernel)) rfl
theorem wd1591 : (.code yX12_comeBack cX12_comeBack 2 (none : Option Jvm.ClassFile.FieldType) : Cond) ∈ lw_ok := lm7 (List.mem_of_getElem? (i := 87) (by decide +kernel)) rfl
theorem wd1592 : (.methodLink RL 137 yX12_most : Cond) ∈ lw_ok := lm7 (List.mem_of_getElem? (i := 88) (by decide +kernel)) rfl
theorem wd1593 : (.instanceMethod yX12_most : Cond) ∈ lw_ok := lm7 (List.mem_of_getElem? (i := 89) (by decide +kernel)) rfl
theorem wd1594 : (.selects RX12 yX12_most yX12_most : Cond) ∈ lw_ok := lm7 (List.mem_of_getElem? (i := 90) (by decide +kernel)) rfl
theorem wd1595 : (.code yX12_most cX12_most 6 (some .int) : Cond) ∈ lw_ok := lm7 (List.mem_of_getElem? (i := 91) (by decide +kernel)) rfl
theorem wd1596 : (.methodLink RX12 316 yX12_setSpans : Cond) ∈ lw_ok := lm7 (List.mem_of_getElem? (i := 92) (by decide +kernel)) rfl
theorem wd1598 : (.instanceMethod yX12_setSpans : Cond) ∈ lw_ok := lm7 (List.mem_of_getElem? (i := 94) (by decide +kernel)) rfl
theorem wd1599 : (.code yX12_setSpans cX12_setSpans 2 (some .int) : Cond) ∈ lw_ok := lm7 (List.mem_of_getElem? (i := 95) (by decide +kernel)) rfl
theorem wd1600 : (.methodLink RX12 313 yX12_sizeOf : Cond) ∈ lw_ok := lm7 (List.mem_of_getElem? (i := 96) (by decide +kernel)) rfl
theorem wd1601 : (.static yX12_sizeOf : Cond) ∈ lw_ok := lm7 (List.mem_of_getElem? (i := 97) (by decide +kernel)) rfl
theorem wd1602 : (.code yX12_sizeOf cX12_sizeOf 3 (some .int) : Cond) ∈ lw_ok := lm7 (List.mem_of_getElem? (i := 98) (by decide +kernel)) rfl
theorem wd1603 : (.methodLink RX12 310 yX12_orderOn : Cond) ∈ lw_ok := lm7 (List.mem_of_getElem? (i := 99) (by decide +kernel)) rfl
theorem wd1605 : (.instanceMethod yX12_orderOn : Cond) ∈ lw_ok := lm7 (List.mem_of_getElem? (i := 101) (by decide +kernel)) rfl
theorem wd1606 : (.code yX12_orderOn cX12_orderOn 5 (none : Option Jvm.ClassFile.FieldType) : Cond) ∈ lw_ok := lm7 (List.mem_of_getElem? (i := 102) (by decide +kernel)) rfl
theorem wd1607 : (.methodLink RX12 319 yX12_row : Cond) ∈ lw_ok := lm7 (List.mem_of_getElem? (i := 103) (by decide +kernel)) rfl
theorem wd1608 : (.methodLink RL 141 yX12_spans : Cond) ∈ lw_ok := lm7 (List.mem_of_getElem? (i := 104) (by decide +kernel)) rfl
theorem wd1609 : (.instanceMethod yX12_spans : Cond) ∈ lw_ok := lm7 (List.mem_of_getElem? (i := 105) (by decide +kernel)) rfl
theorem wd1610 : (.selects RX12 yX12_spans yX12_spans : Cond) ∈ lw_ok := lm7 (List.mem_of_getElem? (i := 106) (by decide +kernel)) rfl
theorem wd1611 : (.code yX12_spans cX12_spans 3 (some .int) : Cond) ∈ lw_ok := lm7 (List.mem_of_getElem? (i := 107) (by decide +kernel)) rfl
theorem wd1612 : (.methodLink RL 145 yX12_best : Cond) ∈ lw_ok := lm7 (List.mem_of_getElem? (i := 108) (by decide +kernel)) rfl
theorem wd1613 : (.instanceMethod yX12_best : Cond) ∈ lw_ok := lm7 (List.mem_of_getElem? (i := 109) (by decide +kernel)) rfl
theorem wd1614 : (.selects RX12 yX12_best yX12_best : Cond) ∈ lw_ok := lm7 (List.mem_of_getElem? (i := 110) (by decide +kernel)) rfl
theorem wd1615 : (.code yX12_best cX12_best 8 (some .int) : Cond) ∈ lw_ok := lm7 (List.mem_of_getElem? (i := 111) (by decide +kernel)) rfl
theorem wd1616 : (.methodLink RL 149 yX12_first : Cond) ∈ lw_ok := lm7 (List.mem_of_getElem? (i := 112) (by decide +kernel)) rfl
theorem wd1617 : (.instanceMethod yX12_first : Cond) ∈ lw_ok := lm7 (List.mem_of_getElem? (i := 113) (by decide +kernel)) rfl
theorem wd1618 : (.selects RX12 yX12_first yX12_first : Cond) ∈ lw_ok := lm7 (List.mem_of_getElem? (i := 114) (by decide +kernel)) rfl
theorem wd1619 : (.code yX12_first cX12_first 7 (some .int) : Cond) ∈ lw_ok := lm7 (List.mem_of_getElem? (i := 115) (by decide +kernel)) rfl
theorem wd1620 : (.methodLink RL 153 yX12_buy : Cond) ∈ lw_ok := lm7 (List.mem_of_getElem? (i := 116) (by decide +kernel)) rfl
theorem wd1621 : (.instanceMethod yX12_buy : Cond) ∈ lw_ok := lm7 (List.mem_of_getElem? (i := 117) (by decide +kernel)) rfl
theorem wd1622 : (.selects RX12 yX12_buy yX12_buy : Cond) ∈ lw_ok := lm7 (List.mem_of_getElem? (i := 118) (by decide +kernel)) rfl
theorem wd1623 : (.code yX12_buy cX12_buy 9 (some .int) : Cond) ∈ lw_ok := lm7 (List.mem_of_getElem? (i := 119) (by decide +kernel)) rfl
theorem wd1624 : (.methodLink RL 157 yX12_fill : Cond) ∈ lw_ok := lm7 (List.mem_of_getElem? (i := 120) (by decide +kernel)) rfl
theorem wd1625 : (.instanceMethod yX12_fill : Cond) ∈ lw_ok := lm7 (List.mem_of_getElem? (i := 121) (by decide +kernel)) rfl
theorem wd1626 : (.selects RX12 yX12_fill yX12_fill : Cond) ∈ lw_ok := lm7 (List.mem_of_getElem? (i := 122) (by decide +kernel)) rfl
theorem wd1627 : (.code yX12_fill cX12_fill 3 (some .int) : Cond) ∈ lw_ok := lm7 (List.mem_of_getElem? (i := 123) (by decide +kernel)) rfl
theorem wd1628 : (.methodLink RL 161 yX12_nothing : Cond) ∈ lw_ok := lm7 (List.mem_of_getElem? (i := 124) (by decide +kernel)) rfl
theorem wd1629 : (.instanceMethod yX12_nothing : Cond) ∈ lw_ok := lm7 (List.mem_of_getElem? (i := 125) (by decide +kernel)) rfl
theorem wd1630 : (.selects RX12 yX12_nothing yX12_nothing : Cond) ∈ lw_ok := lm7 (List.mem_of_getElem? (i := 126) (by decide +kernel)) rfl
theorem wd1631 : (.code yX12_nothing cX12_nothing 2 (some .int) : Cond) ∈ lw_ok := lm7 (List.mem_of_getElem? (i := 127) (by decide +kernel)) rfl
theorem wd1632 : (.methodLink RX12 331 yX12_setNone : Cond) ∈ lw_ok := lm7 (List.mem_of_getElem? (i := 128) (by decide +kernel)) rfl
theorem wd1634 : (.instanceMethod yX12_setNone : Cond) ∈ lw_ok := lm7 (List.mem_of_getElem? (i := 130) (by decide +kernel)) rfl
theorem wd1635 : (.code yX12_setNone cX12_setNone 6 (none : Option Jvm.ClassFile.FieldType) : Cond) ∈ lw_ok := lm7 (List.mem_of_getElem? (i := 131) (by decide +kernel)) rfl
theorem wd1636 : (.methodLink RL 165 yX12_gaveNone : Cond) ∈ lw_ok := lm7 (List.mem_of_getElem? (i := 132) (by decide +kernel)) rfl
theorem wd1637 : (.instanceMethod yX12_gaveNone : Cond) ∈ lw_ok := lm7 (List.mem_of_getElem? (i := 133) (by decide +kernel)) rfl
theorem wd1638 : (.selects RX12 yX12_gaveNone yX12_gaveNone : Cond) ∈ lw_ok := lm7 (List.mem_of_getElem? (i := 134) (by decide +kernel)) rfl
theorem wd1639 : (.code yX12_gaveNone cX12_gaveNone 3 (some .int) : Cond) ∈ lw_ok := lm7 (List.mem_of_getElem? (i := 135) (by decide +kernel)) rfl
theorem wd1640 : (.methodLink RL 169 yX12_fits : Cond) ∈ lw_ok := lm7 (List.mem_of_getElem? (i := 136) (by decide +kernel)) rfl
theorem wd1641 : (.instanceMethod yX12_fits : Cond) ∈ lw_ok := lm7 (List.mem_of_getElem? (i := 137) (by decide +kernel)) rfl
theorem wd1642 : (.selects RX12 yX12_fits yX12_fits : Cond) ∈ lw_ok := lm7 (List.mem_of_getElem? (i := 138) (by decide +kernel)) rfl
theorem wd1643 : (.code yX12_fits cX12_fits 10 (some .int) : Cond) ∈ lw_ok := lm7 (List.mem_of_getElem? (i := 139) (by decide +kernel)) rfl
theorem wd1644 : (.methodLink RX12 334 yX12_isCard : Cond) ∈ lw_ok := lm7 (List.mem_of_getElem? (i := 140) (by decide +kernel)) rfl
theorem wd1645 : (.static yX12_isCard : Cond) ∈ lw_ok := lm7 (List.mem_of_getElem? (i := 141) (by decide +kernel)) rfl
theorem wd1646 : (.code yX12_isCard cX12_isCard 2 (some .boolean) : Cond) ∈ lw_ok := lm7 (List.mem_of_getElem? (i := 142) (by decide +kernel)) rfl
theorem wd1647 : (.methodLink RX12 337 yX12_areNames : Cond) ∈ lw_ok := lm7 (List.mem_of_getElem? (i := 143) (by decide +kernel)) rfl
theorem wd1649 : (.instanceMethod yX12_areNames : Cond) ∈ lw_ok := lm7 (List.mem_of_getElem? (i := 145) (by decide +kernel)) rfl
theorem wd1650 : (.code yX12_areNames cX12_areNames 4 (some .boolean) : Cond) ∈ lw_ok := lm7 (List.mem_of_getElem? (i := 146) (by decide +kernel)) rfl
theorem wd1651 : (.methodLink RL 173 yX12_room : Cond) ∈ lw_ok := lm7 (List.mem_of_getElem? (i := 147) (by decide +kernel)) rfl
theorem wd1652 : (.instanceMethod yX12_room : Cond) ∈ lw_ok := lm7 (List.mem_of_getElem? (i := 148) (by decide +kernel)) rfl
theorem wd1653 : (.selects RX12 yX12_room yX12_room : Cond) ∈ lw_ok := lm7 (List.mem_of_getElem? (i := 149) (by decide +kernel)) rfl
theorem wd1654 : (.code yX12_room cX12_room 14 (some .int) : Cond) ∈ lw_ok := lm7 (List.mem_of_getElem? (i := 150) (by decide +kernel)) rfl
theorem wd1655 : (.methodLink RL 177 yX12_starts : Cond) ∈ lw_ok := lm7 (List.mem_of_getElem? (i := 151) (by decide +kernel)) rfl
theorem wd1656 : (.instanceMethod yX12_starts : Cond) ∈ lw_ok := lm7 (List.mem_of_getElem? (i := 152) (by decide +kernel)) rfl
theorem wd1657 : (.selects RX12 yX12_starts yX12_starts : Cond) ∈ lw_ok := lm7 (List.mem_of_getElem? (i := 153) (by decide +kernel)) rfl
theorem wd1658 : (.code yX12_starts cX12_starts 5 (some .int) : Cond) ∈ lw_ok := lm7 (List.mem_of_getElem? (i := 154) (by decide +kernel)) rfl
theorem wd1659 : (.methodLink RL 181 yX12_year : Cond) ∈ lw_ok := lm7 (List.mem_of_getElem? (i := 155) (by decide +kernel)) rfl
theorem wd1660 : (.instanceMethod yX12_year : Cond) ∈ lw_ok := lm7 (List.mem_of_getElem? (i := 156) (by decide +kernel)) rfl
theorem wd1661 : (.selects RX12 yX12_year yX12_year : Cond) ∈ lw_ok := lm7 (List.mem_of_getElem? (i := 157) (by decide +kernel)) rfl
theorem wd1662 : (.code yX12_year cX12_year 3 (some .int) : Cond) ∈ lw_ok := lm7 (List.mem_of_getElem? (i := 158) (by decide +kernel)) rfl
theorem wd1663 : (.methodLink RX12 340 yX12_leaves : Cond) ∈ lw_ok := lm7 (List.mem_of_getElem? (i := 159) (by decide +kernel)) rfl
theorem wd1665 : (.instanceMethod yX12_leaves : Cond) ∈ lw_ok := lm7 (List.mem_of_getElem? (i := 161) (by decide +kernel)) rfl
theorem wd1666 : (.code yX12_leaves cX12_leaves 6 (some .int) : Cond) ∈ lw_ok := lm7 (List.mem_of_getElem? (i := 162) (by decide +kernel)) rfl
theorem wd1667 : (.methodLink RL 185 yX12_balance : Cond) ∈ lw_ok := lm7 (List.mem_of_getElem? (i := 163) (by decide +kernel)) rfl
theorem wd1668 : (.instanceMethod yX12_balance : Cond) ∈ lw_ok := lm7 (List.mem_of_getElem? (i := 164) (by decide +kernel)) rfl
theorem wd1669 : (.selects RX12 yX12_balance yX12_balance : Cond) ∈ lw_ok := lm7 (List.mem_of_getElem? (i := 165) (by decide +kernel)) rfl
theorem wd1670 : (.code yX12_balance cX12_balance 2 (some .int) : Cond) ∈ lw_ok := lm7 (List.mem_of_getElem? (i := 166) (by decide +kernel)) rfl
theorem wd1671 : (.methodLink RX12 344 yX12_balanceOf : Cond) ∈ lw_ok := lm7 (List.mem_of_getElem? (i := 167) (by decide +kernel)) rfl
theorem wd1673 : (.instanceMethod yX12_balanceOf : Cond) ∈ lw_ok := lm7 (List.mem_of_getElem? (i := 169) (by decide +kernel)) rfl
theorem wd1674 : (.code yX12_balanceOf cX12_balanceOf 5 (some .int) : Cond) ∈ lw_ok := lm7 (List.mem_of_getElem? (i := 170) (by decide +kernel)) rfl
theorem wd1675 : (.methodLink RL 189 yX12_forget : Cond) ∈ lw_ok := lm7 (List.mem_of_getElem? (i := 171) (by decide +kernel)) rfl
theorem wd1676 : (.instanceMethod yX12_forget : Cond) ∈ lw_ok := lm7 (List.mem_of_getElem? (i := 172) (by decide +kernel)) rfl
theorem wd1677 : (.selects RX12 yX12_forget yX12_forget : Cond) ∈ lw_ok := lm7 (List.mem_of_getElem? (i := 173) (by decide +kernel)) rfl
theorem wd1678 : (.code yX12_forget cX12_forget 3 (some .int) : Cond) ∈ lw_ok := lm7 (List.mem_of_getElem? (i := 174) (by decide +kernel)) rfl
theorem wd1679 : (.methodLink RL 193 yX12_even : Cond) ∈ lw_ok := lm7 (List.mem_of_getElem? (i := 175) (by decide +kernel)) rfl
theorem wd1680 : (.instanceMethod yX12_even : Cond) ∈ lw_ok := lm7 (List.mem_of_getElem? (i := 176) (by decide +kernel)) rfl
theorem wd1681 : (.selects RX12 yX12_even yX12_even : Cond) ∈ lw_ok := lm7 (List.mem_of_getElem? (i := 177) (by decide +kernel)) rfl
theorem wd1682 : (.code yX12_even cX12_even 8 (some .int) : Cond) ∈ lw_ok := lm7 (List.mem_of_getElem? (i := 178) (by decide +kernel)) rfl
theorem wd1683 : (.methodLink RX12 347 yX12_apartBy : Cond) ∈ lw_ok := lm7 (List.mem_of_getElem? (i := 179) (by decide +kernel)) rfl
theorem wd1685 : (.instanceMethod yX12_apartBy : Cond) ∈ lw_ok := lm7 (List.mem_of_getElem? (i := 181) (by decide +kernel)) rfl
theorem wd1686 : (.code yX12_apartBy cX12_apartBy 6 (some .int) : Cond) ∈ lw_ok := lm7 (List.mem_of_getElem? (i := 182) (by decide +kernel)) rfl
theorem wd1687 : (.methodLink RL 197 yX12_asked : Cond) ∈ lw_ok := lm7 (List.mem_of_getElem? (i := 183) (by decide +kernel)) rfl
theorem wd1688 : (.instanceMethod yX12_asked : Cond) ∈ lw_ok := lm7 (List.mem_of_getElem? (i := 184) (by decide +kernel)) rfl
theorem wd1689 : (.selects RX12 yX12_asked yX12_asked : Cond) ∈ lw_ok := lm7 (List.mem_of_getElem? (i := 185) (by decide +kernel)) rfl
theorem wd1690 : (.code yX12_asked cX12_asked 1 (some .int) : Cond) ∈ lw_ok := lm7 (List.mem_of_getElem? (i := 186) (by decide +kernel)) rfl
theorem wd1691 : (.methodLink RL 202 yX12_upper : Cond) ∈ lw_ok := lm7 (List.mem_of_getElem? (i := 187) (by decide +kernel)) rfl
theorem wd1692 : (.instanceMethod yX12_upper : Cond) ∈ lw_ok := lm7 (List.mem_of_getElem? (i := 188) (by decide +kernel)) rfl
theorem wd1693 : (.selects RX12 yX12_upper yX12_upper : Cond) ∈ lw_ok := lm7 (List.mem_of_getElem? (i := 189) (by decide +kernel)) rfl
theorem wd1694 : (.code yX12_upper cX12_upper 1 (some .long) : Cond) ∈ lw_ok := lm7 (List.mem_of_getElem? (i := 190) (by decide +kernel)) rfl
theorem wd1695 : (.methodLink RL 206 yX12_lower : Cond) ∈ lw_ok := lm7 (List.mem_of_getElem? (i := 191) (by decide +kernel)) rfl
theorem wd1696 : (.instanceMethod yX12_lower : Cond) ∈ lw_ok := lm7 (List.mem_of_getElem? (i := 192) (by decide +kernel)) rfl
theorem wd1697 : (.selects RX12 yX12_lower yX12_lower : Cond) ∈ lw_ok := lm7 (List.mem_of_getElem? (i := 193) (by decide +kernel)) rfl
theorem wd1698 : (.code yX12_lower cX12_lower 1 (some .long) : Cond) ∈ lw_ok := lm7 (List.mem_of_getElem? (i := 194) (by decide +kernel)) rfl
theorem wd1699 : (.methodLink RL 210 yX12_count : Cond) ∈ lw_ok := lm7 (List.mem_of_getElem? (i := 195) (by decide +kernel)) rfl
theorem wd1700 : (.instanceMethod yX12_count : Cond) ∈ lw_ok := lm7 (List.mem_of_getElem? (i := 196) (by decide +kernel)) rfl
theorem wd1701 : (.selects RX12 yX12_count yX12_count : Cond) ∈ lw_ok := lm7 (List.mem_of_getElem? (i := 197) (by decide +kernel)) rfl
theorem wd1702 : (.code yX12_count cX12_count 2 (some .int) : Cond) ∈ lw_ok := lm7 (List.mem_of_getElem? (i := 198) (by decide +kernel)) rfl
theorem wd1703 : (.methodLink RX12 350 yX12_counts : Cond) ∈ lw_ok := lm7 (List.mem_of_getElem? (i := 199) (by decide +kernel)) rfl
theorem wd1705 : (.instanceMethod yX12_counts : Cond) ∈ lw_ok := lm7 (List.mem_of_getElem? (i := 201) (by decide +kernel)) rfl
theorem wd1706 : (.code yX12_counts cX12_counts 4 (some .int) : Cond) ∈ lw_ok := lm7 (List.mem_of_getElem? (i := 202) (by decide +kernel)) rfl
theorem wd1707 : (.methodLink RL 214 yX12_finding : Cond) ∈ lw_ok := lm7 (List.mem_of_getElem? (i := 203) (by decide +kernel)) rfl
theorem wd1708 : (.instanceMethod yX12_finding : Cond) ∈ lw_ok := lm7 (List.mem_of_getElem? (i := 204) (by decide +kernel)) rfl
theorem wd1709 : (.selects RX12 yX12_finding yX12_finding : Cond) ∈ lw_ok := lm7 (List.mem_of_getElem? (i := 205) (by decide +kernel)) rfl
theorem wd1710 : (.code yX12_finding cX12_finding 1 (some .int) : Cond) ∈ lw_ok := lm7 (List.mem_of_getElem? (i := 206) (by decide +kernel)) rfl
theorem wd1711 : (.methodLink RL 218 yX12_findings : Cond) ∈ lw_ok := lm7 (List.mem_of_getElem? (i := 207) (by decide +kernel)) rfl
theorem wd1712 : (.instanceMethod yX12_findings : Cond) ∈ lw_ok := lm7 (List.mem_of_getElem? (i := 208) (by decide +kernel)) rfl
theorem wd1713 : (.selects RX12 yX12_findings yX12_findings : Cond) ∈ lw_ok := lm7 (List.mem_of_getElem? (i := 209) (by decide +kernel)) rfl
theorem wd1714 : (.code yX12_findings cX12_findings 2 (some .int) : Cond) ∈ lw_ok := lm7 (List.mem_of_getElem? (i := 210) (by decide +kernel)) rfl
theorem wd1715 : (.methodLink RL 222 yX12_digest : Cond) ∈ lw_ok := lm7 (List.mem_of_getElem? (i := 211) (by decide +kernel)) rfl
theorem wd1716 : (.instanceMethod yX12_digest : Cond) ∈ lw_ok := lm7 (List.mem_of_getElem? (i := 212) (by decide +kernel)) rfl
theorem wd1717 : (.selects RX12 yX12_digest yX12_digest : Cond) ∈ lw_ok := lm7 (List.mem_of_getElem? (i := 213) (by decide +kernel)) rfl
theorem wd1718 : (.code yX12_digest cX12_digest 3 (some .long) : Cond) ∈ lw_ok := lm7 (List.mem_of_getElem? (i := 214) (by decide +kernel)) rfl
theorem wd1719 : (.constantLong RX12 361 (17) : Cond) ∈ lw_ok := lm7 (List.mem_of_getElem? (i := 215) (by decide +kernel)) rfl
theorem wd1720 : (.methodLink RX12 358 yX12_mix : Cond) ∈ lw_ok := lm7 (List.mem_of_getElem? (i := 216) (by decide +kernel)) rfl
theorem wd1722 : (.instanceMethod yX12_mix : Cond) ∈ lw_ok := lm7 (List.mem_of_getElem? (i := 218) (by decide +kernel)) rfl
theorem wd1723 : (.code yX12_mix cX12_mix 2 (none : Option Jvm.ClassFile.FieldType) : Cond) ∈ lw_ok := lm7 (List.mem_of_getElem? (i := 219) (by decide +kernel)) rfl
theorem wd1724 : (.constantLong RX12 353 (31) : Cond) ∈ lw_ok := lm7 (List.mem_of_getElem? (i := 220) (by decide +kernel)) rfl
theorem wd1725 : (.methodLink RX12 363 yX12_mixOffice : Cond) ∈ lw_ok := lm7 (List.mem_of_getElem? (i := 221) (by decide +kernel)) rfl
theorem wd1727 : (.instanceMethod yX12_mixOffice : Cond) ∈ lw_ok := lm7 (List.mem_of_getElem? (i := 223) (by decide +kernel)) rfl
theorem wd1728 : (.code yX12_mixOffice cX12_mixOffice 3 (none : Option Jvm.ClassFile.FieldType) : Cond) ∈ lw_ok := lm7 (List.mem_of_getElem? (i := 224) (by decide +kernel)) rfl
theorem inX0 : ∀ w ∈ u_ws RX0 TX0 1, w ∈ lw_ok := sub_g _ [277] (by decide +kernel) (by decide +kernel)
theorem inX1 : ∀ w ∈ u_ws RX1 TX1 2, w ∈ lw_ok := sub_g _ [118, 120] (by decide +kernel) (by decide +kernel)
theorem inX2 : ∀ w ∈ u_ws RX2 TX2 4, w ∈ lw_ok := sub_g _ [315, 317, 319, 321] (by decide +kernel) (by decide +kernel)
theorem inX3 : ∀ w ∈ u_ws RX3 TX3 6, w ∈ lw_ok := sub_g _ [339, 341, 343, 345, 347, 349] (by decide +kernel) (by decide +kernel)
theorem inX4 : ∀ w ∈ u_ws RX4 TX4 1, w ∈ lw_ok := sub_g _ [359] (by decide +kernel) (by decide +kernel)
theorem inX5 : ∀ w ∈ u_ws RX5 TX5 6, w ∈ lw_ok := sub_g _ [257, 259, 261, 263, 265, 267] (by decide +kernel) (by decide +kernel)
theorem inX6 : ∀ w ∈ u_ws RX6 TX6 13, w ∈ lw_ok := sub_g _ [160, 162, 164, 166, 168, 170, 172, 174, 176, 178, 180, 182, 184] (by decide +kernel) (by decide +kernel)
theorem inX7 : ∀ w ∈ u_ws RX7 TX7 3, w ∈ lw_ok := sub_g _ [100, 102, 104] (by decide +kernel) (by decide +kernel)
theorem inX8 : ∀ w ∈ u_ws RX8 TX8 4, w ∈ lw_ok := sub_g _ [300, 302, 304, 306] (by decide +kernel) (by decide +kernel)
theorem inX9 : ∀ w ∈ u_ws RX9 TX9 6, w ∈ lw_ok := sub_g _ [228, 230, 232, 234, 236, 238] (by decide +kernel) (by decide +kernel)
theorem inX10 : ∀ w ∈ u_ws RX10 TX10 4, w ∈ lw_ok := sub_g _ [199, 201, 203, 205] (by decide +kernel) (by decide +kernel)
theorem inX11 : ∀ w ∈ u_ws RX11 TX11 19, w ∈ lw_ok := sub_g _ [381, 383, 385, 387, 389, 391, 393, 395, 397, 399, 401, 403, 405, 407, 409, 411, 413, 415, 417] (by decide +kernel) (by decide +kernel)
theorem inX12 : ∀ w ∈ u_ws RX12 TX12 54, w ∈ lw_ok := sub_g _ [1206, 1208, 1210, 1212, 1214, 1216, 1218, 1220, 1222, 1224, 1226, 1228, 1230, 1232, 1234, 1236, 1238, 1240, 1242, 1244, 1246, 1248, 1250, 1252, 1254, 1256, 1258, 1260, 1262, 1264, 1266, 1268, 1270, 1272, 1274, 1276, 1278, 1280, 1282, 1284, 1286, 1288, 1290, 1292, 1294, 1296, 1298, 1300, 1302, 1304, 1306, 1308, 1310, 1312] (by decide +kernel) (by decide +kernel)
