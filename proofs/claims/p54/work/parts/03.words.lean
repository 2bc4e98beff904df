def lw_ok : List Cond := lw_tbl.filter goodWord
theorem lw_okm {w : Cond} (h : w ∈ lw_tbl) (g : goodWord w = true) : w ∈ lw_ok := List.mem_filter.mpr ⟨h, g⟩
theorem lw_okt {w : Cond} (h : w ∈ lw_ok) : w ∈ lw_tbl := (List.mem_filter.mp h).1
theorem lm0 {w : Cond} (h : w ∈ k2_sels lw_privs) (g : goodWord w = true) : w ∈ lw_ok := lw_okm (List.mem_append_left _ h) g
theorem lm1 {w : Cond} (h : w ∈ tables_1_1) (g : goodWord w = true) : w ∈ lw_ok := lw_okm (List.mem_append_right _ (List.mem_append_left _ h)) g
theorem lm2 {w : Cond} (h : w ∈ tables_1_2) (g : goodWord w = true) : w ∈ lw_ok := lw_okm (List.mem_append_right _ (List.mem_append_right _ (List.mem_append_left _ h))) g
theorem lm3 {w : Cond} (h : w ∈ tables_1_3) (g : goodWord w = true) : w ∈ lw_ok := lw_okm (List.mem_append_right _ (List.mem_append_right _ (List.mem_append_right _ (List.mem_append_left _ h)))) g
theorem lm4 {w : Cond} (h : w ∈ tables_1_4) (g : goodWord w = true) : w ∈ lw_ok := lw_okm (List.mem_append_right _ (List.mem_append_right _ (List.mem_append_right _ (List.mem_append_right _ (List.mem_append_left _ h))))) g
theorem lm5 {w : Cond} (h : w ∈ tables_1_5) (g : goodWord w = true) : w ∈ lw_ok := lw_okm (List.mem_append_right _ (List.mem_append_right _ (List.mem_append_right _ (List.mem_append_right _ (List.mem_append_right _ h))))) g
theorem sub_g (ws : List Cond) (ps : List Nat) (hp : ws = ps.filterMap (fun i => lw_tbl[i]?)) (hg : ws.all goodWord = true) : ∀ w ∈ ws, w ∈ lw_ok := by
  intro w hw
  have g := List.all_eq_true.mp hg w hw
  rw [hp] at hw
  obtain ⟨i, -, hi⟩ := List.mem_filterMap.mp hw
  exact lw_okm (List.mem_of_getElem? hi) g
theorem wd0 : (.selects RX11 yX11_refuse yX11_refuse : Cond) ∈ lw_ok := lm0 (List.mem_of_getElem? (i := 0) (by decide +kernel)) rfl
theorem wd1 : (.selects RX11 yX11_refusePlace yX11_refusePlace : Cond) ∈ lw_ok := lm0 (List.mem_of_getElem? (i := 1) (by decide +kernel)) rfl
theorem wd2 : (.selects RX11 yX11_refuseMissing yX11_refuseMissing : Cond) ∈ lw_ok := lm0 (List.mem_of_getElem? (i := 2) (by decide +kernel)) rfl
theorem wd3 : (.selects RX11 yX11_tell yX11_tell : Cond) ∈ lw_ok := lm0 (List.mem_of_getElem? (i := 3) (by decide +kernel)) rfl
theorem wd4 : (.selects RX11 yX11_passOneHour yX11_passOneHour : Cond) ∈ lw_ok := lm0 (List.mem_of_getElem? (i := 4) (by decide +kernel)) rfl
theorem wd5 : (.selects RX11 yX11_sign yX11_sign : Cond) ∈ lw_ok := lm0 (List.mem_of_getElem? (i := 5) (by decide +kernel)) rfl
theorem wd6 : (.selects RX11 yX11_keptAt yX11_keptAt : Cond) ∈ lw_ok := lm0 (List.mem_of_getElem? (i := 6) (by decide +kernel)) rfl
theorem wd7 : (.selects RX11 yX11_tellFraction yX11_tellFraction : Cond) ∈ lw_ok := lm0 (List.mem_of_getElem? (i := 7) (by decide +kernel)) rfl
theorem wd8 : (.selects RX11 yX11_likeliestBut yX11_likeliestBut : Cond) ∈ lw_ok := lm0 (List.mem_of_getElem? (i := 8) (by decide +kernel)) rfl
theorem wd9 : (.selects RX11 yX11_readOrder yX11_readOrder : Cond) ∈ lw_ok := lm0 (List.mem_of_getElem? (i := 9) (by decide +kernel)) rfl
theorem wd10 : (.selects RX11 yX11_bringIn yX11_bringIn : Cond) ∈ lw_ok := lm0 (List.mem_of_getElem? (i := 10) (by decide +kernel)) rfl
theorem wd11 : (.selects RX11 yX11_isSetOfDesks yX11_isSetOfDesks : Cond) ∈ lw_ok := lm0 (List.mem_of_getElem? (i := 11) (by decide +kernel)) rfl
theorem wd12 : (.selects RX11 yX11_tryAllOrders yX11_tryAllOrders : Cond) ∈ lw_ok := lm0 (List.mem_of_getElem? (i := 12) (by decide +kernel)) rfl
theorem wd13 : (.selects RX11 yX11_isWay yX11_isWay : Cond) ∈ lw_ok := lm0 (List.mem_of_getElem? (i := 13) (by decide +kernel)) rfl
theorem wd14 : (.selects RX11 yX11_numberOfKept yX11_numberOfKept : Cond) ∈ lw_ok := lm0 (List.mem_of_getElem? (i := 14) (by decide +kernel)) rfl
theorem wd15 : (.selects RX11 yX11_hourKept yX11_hourKept : Cond) ∈ lw_ok := lm0 (List.mem_of_getElem? (i := 15) (by decide +kernel)) rfl
theorem wd16 : (.selects RX11 yX11_forgetKept yX11_forgetKept : Cond) ∈ lw_ok := lm0 (List.mem_of_getElem? (i := 16) (by decide +kernel)) rfl
theorem wd17 : (.initialized RL : Cond) ∈ lw_ok := lm1 (List.mem_of_getElem? (i := 0) (by decide +kernel)) rfl
theorem wd18 : (.initialized RX11 : Cond) ∈ lw_ok := lm1 (List.mem_of_getElem? (i := 1) (by decide +kernel)) rfl
theorem wd19 : (.initialized RX7 : Cond) ∈ lw_ok := lm1 (List.mem_of_getElem? (i := 2) (by decide +kernel)) rfl
theorem wd20 : (.initialized RJ9 : Cond) ∈ lw_ok := lm1 (List.mem_of_getElem? (i := 3) (by decide +kernel)) rfl
theorem wd21 : (.initialized RX1 : Cond) ∈ lw_ok := lm1 (List.mem_of_getElem? (i := 4) (by decide +kernel)) rfl
theorem wd22 : (.initialized RX6 : Cond) ∈ lw_ok := lm1 (List.mem_of_getElem? (i := 5) (by decide +kernel)) rfl
theorem wd23 : (.initialized RX10 : Cond) ∈ lw_ok := lm1 (List.mem_of_getElem? (i := 6) (by decide +kernel)) rfl
theorem wd24 : (.initialized RX9 : Cond) ∈ lw_ok := lm1 (List.mem_of_getElem? (i := 7) (by decide +kernel)) rfl
theorem wd25 : (.initialized RX5 : Cond) ∈ lw_ok := lm1 (List.mem_of_getElem? (i := 8) (by decide +kernel)) rfl
theorem wd26 : (.initialized RX0 : Cond) ∈ lw_ok := lm1 (List.mem_of_getElem? (i := 9) (by decide +kernel)) rfl
theorem wd27 : (.initialized RX2 : Cond) ∈ lw_ok := lm1 (List.mem_of_getElem? (i := 10) (by decide +kernel)) rfl
theorem wd28 : (.initialized RX8 : Cond) ∈ lw_ok := lm1 (List.mem_of_getElem? (i := 11) (by decide +kernel)) rfl
theorem wd29 : (.initialized RX3 : Cond) ∈ lw_ok := lm1 (List.mem_of_getElem? (i := 12) (by decide +kernel)) rfl
theorem wd30 : (.initialized RX4 : Cond) ∈ lw_ok := lm1 (List.mem_of_getElem? (i := 13) (by decide +kernel)) rfl
theorem wd31 : (.initialized RJ6 : Cond) ∈ lw_ok := lm1 (List.mem_of_getElem? (i := 14) (by decide +kernel)) rfl
theorem wd32 : (.classLink RL 10 RX11 : Cond) ∈ lw_ok := lm1 (List.mem_of_getElem? (i := 15) (by decide +kernel)) rfl
theorem wd33 : (.instantiable RX11 19 : Cond) ∈ lw_ok := lm1 (List.mem_of_getElem? (i := 16) (by decide +kernel)) rfl
theorem wd34 : (.methodLink RL 39 yX11_init : Cond) ∈ lw_ok := lm1 (List.mem_of_getElem? (i := 17) (by decide +kernel)) rfl
theorem wd35 : (.instanceMethod yX11_init : Cond) ∈ lw_ok := lm1 (List.mem_of_getElem? (i := 18) (by decide +kernel)) rfl
theorem wd36 : (.code yX11_init cX11_init 2 (none : Option Jvm.ClassFile.FieldType) : Cond) ∈ lw_ok := lm1 (List.mem_of_getElem? (i := 19) (by decide +kernel)) rfl
theorem wd37 : (.methodLink RX11 1 Lib.objectInit : Cond) ∈ lw_ok := lm1 (List.mem_of_getElem? (i := 20) (by decide +kernel)) rfl
theorem wd38 : (.instanceMethod Lib.objectInit : Cond) ∈ lw_ok := lm1 (List.mem_of_getElem? (i := 21) (by decide +kernel)) rfl
theorem wd39 : (.code Lib.objectInit ⟨#[0xb1]⟩ 1 (none : Option Jvm.ClassFile.FieldType) : Cond) ∈ lw_ok := lm1 (List.mem_of_getElem? (i := 22) (by decide +kernel)) rfl
theorem wd40 : (.classLink RX11 7 RX7 : Cond) ∈ lw_ok := lm1 (List.mem_of_getElem? (i := 23) (by decide +kernel)) rfl
theorem wd41 : (.instantiable RX7 3 : Cond) ∈ lw_ok := lm1 (List.mem_of_getElem? (i := 24) (by decide +kernel)) rfl
theorem wd42 : (.methodLink RX11 11 yX7_init : Cond) ∈ lw_ok := lm1 (List.mem_of_getElem? (i := 25) (by decide +kernel)) rfl
theorem wd43 : (.instanceMethod yX7_init : Cond) ∈ lw_ok := lm1 (List.mem_of_getElem? (i := 26) (by decide +kernel)) rfl
theorem wd44 : (.code yX7_init cX7_init 4 (none : Option Jvm.ClassFile.FieldType) : Cond) ∈ lw_ok := lm1 (List.mem_of_getElem? (i := 27) (by decide +kernel)) rfl
theorem wd45 : (.methodLink RX7 3 Lib.objectInit : Cond) ∈ lw_ok := lm1 (List.mem_of_getElem? (i := 28) (by decide +kernel)) rfl
theorem wd46 : (.methodLink RX7 9 Lib.Math.max.name : Cond) ∈ lw_ok := lm1 (List.mem_of_getElem? (i := 29) (by decide +kernel)) rfl
theorem wd47 : (.static Lib.Math.max.name : Cond) ∈ lw_ok := lm1 (List.mem_of_getElem? (i := 30) (by decide +kernel)) rfl
theorem wd48 : (.code Lib.Math.max.name Lib.Math.max.code 2 (some .int) : Cond) ∈ lw_ok := lm1 (List.mem_of_getElem? (i := 31) (by decide +kernel)) rfl
theorem wd49 : (.fieldLink RX7 15 "EnvelopeCard$Shelf" "places" "I" : Cond) ∈ lw_ok := lm1 (List.mem_of_getElem? (i := 32) (by decide +kernel)) rfl
theorem wd50 : (.fieldLink RX7 21 "EnvelopeCard$Shelf" "sizes" "[I" : Cond) ∈ lw_ok := lm1 (List.mem_of_getElem? (i := 33) (by decide +kernel)) rfl
theorem wd51 : (.fieldLink RX7 25 "EnvelopeCard$Shelf" "cells" "[I" : Cond) ∈ lw_ok := lm1 (List.mem_of_getElem? (i := 34) (by decide +kernel)) rfl
theorem wd59 : (.arrayClass .int : Cond) ∈ lw_ok := lm1 (List.mem_of_getElem? (i := 42) (by decide +kernel)) rfl
theorem wd60 : (.classLink RX11 21 RX1 : Cond) ∈ lw_ok := lm1 (List.mem_of_getElem? (i := 43) (by decide +kernel)) rfl
theorem wd61 : (.instantiable RX1 2 : Cond) ∈ lw_ok := lm1 (List.mem_of_getElem? (i := 44) (by decide +kernel)) rfl
theorem wd63 : (.instanceMethod yX1_init : Cond) ∈ lw_ok := lm1 (List.mem_of_getElem? (i := 46) (by decide +kernel)) rfl
theorem wd64 : (.code yX1_init cX1_init 1 (none : Option Jvm.ClassFile.FieldType) : Cond) ∈ lw_ok := lm1 (List.mem_of_getElem? (i := 47) (by decide +kernel)) rfl
theorem wd65 : (.methodLink RX1 3 Lib.objectInit : Cond) ∈ lw_ok := lm1 (List.mem_of_getElem? (i := 48) (by decide +kernel)) rfl
theorem wd66 : (.fieldLink RX1 9 "EnvelopeCard$Desks" "facts" "[I" : Cond) ∈ lw_ok := lm1 (List.mem_of_getElem? (i := 49) (by decide +kernel)) rfl
theorem wd67 : (.fieldLink RX1 15 "EnvelopeCard$Desks" "number" "I" : Cond) ∈ lw_ok := lm1 (List.mem_of_getElem? (i := 50) (by decide +kernel)) rfl
theorem wd68 : (.fieldLink RX10 38 "EnvelopeCard$Desks" "number" "I" : Cond) ∈ lw_ok := lm1 (List.mem_of_getElem? (i := 51) (by decide +kernel)) rfl
theorem wd69 : (.fieldLink RX11 172 "EnvelopeCard$Desks" "number" "I" : Cond) ∈ lw_ok := lm1 (List.mem_of_getElem? (i := 52) (by decide +kernel)) rfl
theorem wd75 : (.classLink RX11 31 RX6 : Cond) ∈ lw_ok := lm1 (List.mem_of_getElem? (i := 58) (by decide +kernel)) rfl
theorem wd76 : (.instantiable RX6 13 : Cond) ∈ lw_ok := lm1 (List.mem_of_getElem? (i := 59) (by decide +kernel)) rfl
theorem wd78 : (.instanceMethod yX6_init : Cond) ∈ lw_ok := lm1 (List.mem_of_getElem? (i := 61) (by decide +kernel)) rfl
theorem wd79 : (.code yX6_init cX6_init 1 (none : Option Jvm.ClassFile.FieldType) : Cond) ∈ lw_ok := lm1 (List.mem_of_getElem? (i := 62) (by decide +kernel)) rfl
theorem wd80 : (.methodLink RX6 3 Lib.objectInit : Cond) ∈ lw_ok := lm1 (List.mem_of_getElem? (i := 63) (by decide +kernel)) rfl
theorem wd81 : (.fieldLink RX6 9 "EnvelopeCard$Round" "hours" "[I" : Cond) ∈ lw_ok := lm1 (List.mem_of_getElem? (i := 64) (by decide +kernel)) rfl
theorem wd82 : (.fieldLink RX6 15 "EnvelopeCard$Round" "gifts" "[I" : Cond) ∈ lw_ok := lm1 (List.mem_of_getElem? (i := 65) (by decide +kernel)) rfl
theorem wd83 : (.fieldLink RX6 18 "EnvelopeCard$Round" "written" "[I" : Cond) ∈ lw_ok := lm1 (List.mem_of_getElem? (i := 66) (by decide +kernel)) rfl
theorem wd84 : (.fieldLink RX6 21 "EnvelopeCard$Round" "start" "I" : Cond) ∈ lw_ok := lm1 (List.mem_of_getElem? (i := 67) (by decide +kernel)) rfl
theorem wd85 : (.fieldLink RX11 280 "EnvelopeCard$Round" "start" "I" : Cond) ∈ lw_ok := lm1 (List.mem_of_getElem? (i := 68) (by decide +kernel)) rfl
theorem wd86 : (.fieldLink RX6 25 "EnvelopeCard$Round" "rule" "I" : Cond) ∈ lw_ok := lm1 (List.mem_of_getElem? (i := 69) (by decide +kernel)) rfl
theorem wd87 : (.fieldLink RX2 52 "EnvelopeCard$Round" "rule" "I" : Cond) ∈ lw_ok := lm1 (List.mem_of_getElem? (i := 70) (by decide +kernel)) rfl
theorem wd88 : (.fieldLink RX11 246 "EnvelopeCard$Round" "rule" "I" : Cond) ∈ lw_ok := lm1 (List.mem_of_getElem? (i := 71) (by decide +kernel)) rfl
theorem wd89 : (.fieldLink RX6 28 "EnvelopeCard$Round" "at" "I" : Cond) ∈ lw_ok := lm1 (List.mem_of_getElem? (i := 72) (by decide +kernel)) rfl
theorem wd90 : (.fieldLink RX2 32 "EnvelopeCard$Round" "at" "I" : Cond) ∈ lw_ok := lm1 (List.mem_of_getElem? (i := 73) (by decide +kernel)) rfl
theorem wd91 : (.fieldLink RX11 224 "EnvelopeCard$Round" "at" "I" : Cond) ∈ lw_ok := lm1 (List.mem_of_getElem? (i := 74) (by decide +kernel)) rfl
theorem wd92 : (.fieldLink RX6 31 "EnvelopeCard$Round" "isBack" "Z" : Cond) ∈ lw_ok := lm1 (List.mem_of_getElem? (i := 75) (by decide +kernel)) rfl
theorem wd93 : (.fieldLink RX2 41 "EnvelopeCard$Round" "isBack" "Z" : Cond) ∈ lw_ok := lm1 (List.mem_of_getElem? (i := 76) (by decide +kernel)) rfl
theorem wd94 : (.fieldLink RX11 216 "EnvelopeCard$Round" "isBack" "Z" : Cond) ∈ lw_ok := lm1 (List.mem_of_getElem? (i := 77) (by decide +kernel)) rfl
theorem wd95 : (.fieldLink RX6 35 "EnvelopeCard$Round" "hour" "I" : Cond) ∈ lw_ok := lm1 (List.mem_of_getElem? (i := 78) (by decide +kernel)) rfl
theorem wd96 : (.fieldLink RX2 49 "EnvelopeCard$Round" "hour" "I" : Cond) ∈ lw_ok := lm1 (List.mem_of_getElem? (i := 79) (by decide +kernel)) rfl
theorem wd97 : (.fieldLink RX11 184 "EnvelopeCard$Round" "hour" "I" : Cond) ∈ lw_ok := lm1 (List.mem_of_getElem? (i := 80) (by decide +kernel)) rfl
theorem wd98 : (.fieldLink RX6 38 "EnvelopeCard$Round" "crossed" "I" : Cond) ∈ lw_ok := lm1 (List.mem_of_getElem? (i := 81) (by decide +kernel)) rfl
theorem wd99 : (.fieldLink RX2 38 "EnvelopeCard$Round" "crossed" "I" : Cond) ∈ lw_ok := lm1 (List.mem_of_getElem? (i := 82) (by decide +kernel)) rfl
theorem wd100 : (.fieldLink RX11 243 "EnvelopeCard$Round" "crossed" "I" : Cond) ∈ lw_ok := lm1 (List.mem_of_getElem? (i := 83) (by decide +kernel)) rfl
theorem wd101 : (.fieldLink RX6 41 "EnvelopeCard$Round" "law" "I" : Cond) ∈ lw_ok := lm1 (List.mem_of_getElem? (i := 84) (by decide +kernel)) rfl
theorem wd102 : (.fieldLink RX5 30 "EnvelopeCard$Round" "law" "I" : Cond) ∈ lw_ok := lm1 (List.mem_of_getElem? (i := 85) (by decide +kernel)) rfl
theorem wd103 : (.fieldLink RX11 202 "EnvelopeCard$Round" "law" "I" : Cond) ∈ lw_ok := lm1 (List.mem_of_getElem? (i := 86) (by decide +kernel)) rfl
theorem wd104 : (.fieldLink RX6 44 "EnvelopeCard$Round" "named" "I" : Cond) ∈ lw_ok := lm1 (List.mem_of_getElem? (i := 87) (by decide +kernel)) rfl
theorem wd105 : (.fieldLink RX5 33 "EnvelopeCard$Round" "named" "I" : Cond) ∈ lw_ok := lm1 (List.mem_of_getElem? (i := 88) (by decide +kernel)) rfl
theorem wd106 : (.fieldLink RX11 205 "EnvelopeCard$Round" "named" "I" : Cond) ∈ lw_ok := lm1 (List.mem_of_getElem? (i := 89) (by decide +kernel)) rfl
theorem wd107 : (.fieldLink RX6 47 "EnvelopeCard$Round" "linked" "I" : Cond) ∈ lw_ok := lm1 (List.mem_of_getElem? (i := 90) (by decide +kernel)) rfl
theorem wd108 : (.fieldLink RX5 34 "EnvelopeCard$Round" "linked" "I" : Cond) ∈ lw_ok := lm1 (List.mem_of_getElem? (i := 91) (by decide +kernel)) rfl
theorem wd109 : (.fieldLink RX11 208 "EnvelopeCard$Round" "linked" "I" : Cond) ∈ lw_ok := lm1 (List.mem_of_getElem? (i := 92) (by decide +kernel)) rfl
theorem wd110 : (.fieldLink RX6 50 "EnvelopeCard$Round" "isThere" "Z" : Cond) ∈ lw_ok := lm1 (List.mem_of_getElem? (i := 93) (by decide +kernel)) rfl
theorem wd111 : (.fieldLink RX11 260 "EnvelopeCard$Round" "isThere" "Z" : Cond) ∈ lw_ok := lm1 (List.mem_of_getElem? (i := 94) (by decide +kernel)) rfl
theorem wd140 : (.classLink RX11 42 RX10 : Cond) ∈ lw_ok := lm1 (List.mem_of_getElem? (i := 123) (by decide +kernel)) rfl
theorem wd141 : (.instantiable RX10 4 : Cond) ∈ lw_ok := lm1 (List.mem_of_getElem? (i := 124) (by decide +kernel)) rfl
theorem wd143 : (.instanceMethod yX10_init : Cond) ∈ lw_ok := lm1 (List.mem_of_getElem? (i := 126) (by decide +kernel)) rfl
theorem wd144 : (.code yX10_init cX10_init 1 (none : Option Jvm.ClassFile.FieldType) : Cond) ∈ lw_ok := lm1 (List.mem_of_getElem? (i := 127) (by decide +kernel)) rfl
theorem wd145 : (.methodLink RX10 3 Lib.objectInit : Cond) ∈ lw_ok := lm1 (List.mem_of_getElem? (i := 128) (by decide +kernel)) rfl
theorem wd146 : (.fieldLink RX10 9 "EnvelopeCard$Years" "leavers" "[I" : Cond) ∈ lw_ok := lm1 (List.mem_of_getElem? (i := 129) (by decide +kernel)) rfl
theorem wd147 : (.fieldLink RX10 15 "EnvelopeCard$Years" "changes" "[I" : Cond) ∈ lw_ok := lm1 (List.mem_of_getElem? (i := 130) (by decide +kernel)) rfl
theorem wd148 : (.fieldLink RX10 18 "EnvelopeCard$Years" "balances" "[I" : Cond) ∈ lw_ok := lm1 (List.mem_of_getElem? (i := 131) (by decide +kernel)) rfl
theorem wd149 : (.fieldLink RX10 21 "EnvelopeCard$Years" "number" "I" : Cond) ∈ lw_ok := lm1 (List.mem_of_getElem? (i := 132) (by decide +kernel)) rfl
theorem wd150 : (.fieldLink RX11 166 "EnvelopeCard$Years" "number" "I" : Cond) ∈ lw_ok := lm1 (List.mem_of_getElem? (i := 133) (by decide +kernel)) rfl
theorem wd160 : (.classLink RX11 49 RX9 : Cond) ∈ lw_ok := lm1 (List.mem_of_getElem? (i := 143) (by decide +kernel)) rfl
theorem wd161 : (.instantiable RX9 6 : Cond) ∈ lw_ok := lm1 (List.mem_of_getElem? (i := 144) (by decide +kernel)) rfl
theorem wd163 : (.instanceMethod yX9_init : Cond) ∈ lw_ok := lm1 (List.mem_of_getElem? (i := 146) (by decide +kernel)) rfl
theorem wd164 : (.code yX9_init cX9_init 1 (none : Option Jvm.ClassFile.FieldType) : Cond) ∈ lw_ok := lm1 (List.mem_of_getElem? (i := 147) (by decide +kernel)) rfl
theorem wd165 : (.methodLink RX9 3 Lib.objectInit : Cond) ∈ lw_ok := lm1 (List.mem_of_getElem? (i := 148) (by decide +kernel)) rfl
theorem wd166 : (.fieldLink RX9 9 "EnvelopeCard$Walk" "signers" "[I" : Cond) ∈ lw_ok := lm1 (List.mem_of_getElem? (i := 149) (by decide +kernel)) rfl
theorem wd167 : (.fieldLink RX9 15 "EnvelopeCard$Walk" "signed" "I" : Cond) ∈ lw_ok := lm1 (List.mem_of_getElem? (i := 150) (by decide +kernel)) rfl
theorem wd168 : (.fieldLink RX11 427 "EnvelopeCard$Walk" "signed" "I" : Cond) ∈ lw_ok := lm1 (List.mem_of_getElem? (i := 151) (by decide +kernel)) rfl
theorem wd169 : (.fieldLink RX9 19 "EnvelopeCard$Walk" "at" "I" : Cond) ∈ lw_ok := lm1 (List.mem_of_getElem? (i := 152) (by decide +kernel)) rfl
theorem wd170 : (.fieldLink RX2 101 "EnvelopeCard$Walk" "at" "I" : Cond) ∈ lw_ok := lm1 (List.mem_of_getElem? (i := 153) (by decide +kernel)) rfl
theorem wd171 : (.fieldLink RX11 439 "EnvelopeCard$Walk" "at" "I" : Cond) ∈ lw_ok := lm1 (List.mem_of_getElem? (i := 154) (by decide +kernel)) rfl
theorem wd172 : (.fieldLink RX9 22 "EnvelopeCard$Walk" "crossed" "I" : Cond) ∈ lw_ok := lm1 (List.mem_of_getElem? (i := 155) (by decide +kernel)) rfl
theorem wd173 : (.fieldLink RX2 102 "EnvelopeCard$Walk" "crossed" "I" : Cond) ∈ lw_ok := lm1 (List.mem_of_getElem? (i := 156) (by decide +kernel)) rfl
theorem wd174 : (.fieldLink RX9 25 "EnvelopeCard$Walk" "target" "I" : Cond) ∈ lw_ok := lm1 (List.mem_of_getElem? (i := 157) (by decide +kernel)) rfl
theorem wd175 : (.fieldLink RX2 98 "EnvelopeCard$Walk" "target" "I" : Cond) ∈ lw_ok := lm1 (List.mem_of_getElem? (i := 158) (by decide +kernel)) rfl
theorem wd176 : (.fieldLink RX11 440 "EnvelopeCard$Walk" "target" "I" : Cond) ∈ lw_ok := lm1 (List.mem_of_getElem? (i := 159) (by decide +kernel)) rfl
theorem wd177 : (.fieldLink RX9 28 "EnvelopeCard$Walk" "heap" "I" : Cond) ∈ lw_ok := lm1 (List.mem_of_getElem? (i := 160) (by decide +kernel)) rfl
theorem wd178 : (.fieldLink RX2 95 "EnvelopeCard$Walk" "heap" "I" : Cond) ∈ lw_ok := lm1 (List.mem_of_getElem? (i := 161) (by decide +kernel)) rfl
theorem wd179 : (.fieldLink RX11 436 "EnvelopeCard$Walk" "heap" "I" : Cond) ∈ lw_ok := lm1 (List.mem_of_getElem? (i := 162) (by decide +kernel)) rfl
theorem wd193 : (.classLink RX11 56 RX5 : Cond) ∈ lw_ok := lm1 (List.mem_of_getElem? (i := 176) (by decide +kernel)) rfl
theorem wd194 : (.instantiable RX5 6 : Cond) ∈ lw_ok := lm1 (List.mem_of_getElem? (i := 177) (by decide +kernel)) rfl
theorem wd196 : (.instanceMethod yX5_init : Cond) ∈ lw_ok := lm1 (List.mem_of_getElem? (i := 179) (by decide +kernel)) rfl
theorem wd197 : (.code yX5_init cX5_init 1 (none : Option Jvm.ClassFile.FieldType) : Cond) ∈ lw_ok := lm1 (List.mem_of_getElem? (i := 180) (by decide +kernel)) rfl
theorem wd198 : (.methodLink RX5 3 Lib.objectInit : Cond) ∈ lw_ok := lm1 (List.mem_of_getElem? (i := 181) (by decide +kernel)) rfl
theorem wd199 : (.fieldLink RX5 9 "EnvelopeCard$Pot" "law" "I" : Cond) ∈ lw_ok := lm1 (List.mem_of_getElem? (i := 182) (by decide +kernel)) rfl
theorem wd200 : (.fieldLink RX11 378 "EnvelopeCard$Pot" "law" "I" : Cond) ∈ lw_ok := lm1 (List.mem_of_getElem? (i := 183) (by decide +kernel)) rfl
theorem wd201 : (.fieldLink RX5 15 "EnvelopeCard$Pot" "named" "I" : Cond) ∈ lw_ok := lm1 (List.mem_of_getElem? (i := 184) (by decide +kernel)) rfl
theorem wd202 : (.fieldLink RX11 325 "EnvelopeCard$Pot" "named" "I" : Cond) ∈ lw_ok := lm1 (List.mem_of_getElem? (i := 185) (by decide +kernel)) rfl
theorem wd203 : (.fieldLink RX5 18 "EnvelopeCard$Pot" "linked" "I" : Cond) ∈ lw_ok := lm1 (List.mem_of_getElem? (i := 186) (by decide +kernel)) rfl
theorem wd204 : (.fieldLink RX5 21 "EnvelopeCard$Pot" "total" "I" : Cond) ∈ lw_ok := lm1 (List.mem_of_getElem? (i := 187) (by decide +kernel)) rfl
theorem wd205 : (.fieldLink RX10 53 "EnvelopeCard$Pot" "total" "I" : Cond) ∈ lw_ok := lm1 (List.mem_of_getElem? (i := 188) (by decide +kernel)) rfl
theorem wd206 : (.fieldLink RX11 234 "EnvelopeCard$Pot" "total" "I" : Cond) ∈ lw_ok := lm1 (List.mem_of_getElem? (i := 189) (by decide +kernel)) rfl
theorem wd207 : (.fieldLink RX5 24 "EnvelopeCard$Pot" "givers" "I" : Cond) ∈ lw_ok := lm1 (List.mem_of_getElem? (i := 190) (by decide +kernel)) rfl
theorem wd208 : (.fieldLink RX5 27 "EnvelopeCard$Pot" "least" "I" : Cond) ∈ lw_ok := lm1 (List.mem_of_getElem? (i := 191) (by decide +kernel)) rfl
theorem wd222 : (.classLink RX11 66 RX0 : Cond) ∈ lw_ok := lm1 (List.mem_of_getElem? (i := 205) (by decide +kernel)) rfl
theorem wd223 : (.instantiable RX0 1 : Cond) ∈ lw_ok := lm1 (List.mem_of_getElem? (i := 206) (by decide +kernel)) rfl
theorem wd225 : (.instanceMethod yX0_init : Cond) ∈ lw_ok := lm1 (List.mem_of_getElem? (i := 208) (by decide +kernel)) rfl
theorem wd226 : (.code yX0_init cX0_init 1 (none : Option Jvm.ClassFile.FieldType) : Cond) ∈ lw_ok := lm1 (List.mem_of_getElem? (i := 209) (by decide +kernel)) rfl
theorem wd227 : (.methodLink RX0 3 Lib.objectInit : Cond) ∈ lw_ok := lm1 (List.mem_of_getElem? (i := 210) (by decide +kernel)) rfl
theorem wd228 : (.fieldLink RX0 9 "EnvelopeCard$Card" "times" "[I" : Cond) ∈ lw_ok := lm1 (List.mem_of_getElem? (i := 211) (by decide +kernel)) rfl
theorem wd232 : (.classLink RX11 73 RX2 : Cond) ∈ lw_ok := lm1 (List.mem_of_getElem? (i := 215) (by decide +kernel)) rfl
theorem wd233 : (.instantiable RX2 4 : Cond) ∈ lw_ok := lm1 (List.mem_of_getElem? (i := 216) (by decide +kernel)) rfl
theorem wd235 : (.instanceMethod yX2_init : Cond) ∈ lw_ok := lm1 (List.mem_of_getElem? (i := 218) (by decide +kernel)) rfl
theorem wd236 : (.code yX2_init cX2_init 1 (none : Option Jvm.ClassFile.FieldType) : Cond) ∈ lw_ok := lm1 (List.mem_of_getElem? (i := 219) (by decide +kernel)) rfl
theorem wd237 : (.methodLink RX2 3 Lib.objectInit : Cond) ∈ lw_ok := lm1 (List.mem_of_getElem? (i := 220) (by decide +kernel)) rfl
theorem wd238 : (.classLink RX2 9 RX9 : Cond) ∈ lw_ok := lm1 (List.mem_of_getElem? (i := 221) (by decide +kernel)) rfl
theorem wd240 : (.classLink RX2 18 RX8 : Cond) ∈ lw_ok := lm1 (List.mem_of_getElem? (i := 223) (by decide +kernel)) rfl
theorem wd241 : (.instantiable RX8 4 : Cond) ∈ lw_ok := lm1 (List.mem_of_getElem? (i := 224) (by decide +kernel)) rfl
theorem wd243 : (.instanceMethod yX8_init : Cond) ∈ lw_ok := lm1 (List.mem_of_getElem? (i := 226) (by decide +kernel)) rfl
theorem wd244 : (.code yX8_init cX8_init 1 (none : Option Jvm.ClassFile.FieldType) : Cond) ∈ lw_ok := lm1 (List.mem_of_getElem? (i := 227) (by decide +kernel)) rfl
theorem wd245 : (.methodLink RX8 3 Lib.objectInit : Cond) ∈ lw_ok := lm1 (List.mem_of_getElem? (i := 228) (by decide +kernel)) rfl
theorem wd246 : (.fieldLink RX8 11 "EnvelopeCard$Spread" "parts" "[J" : Cond) ∈ lw_ok := lm1 (List.mem_of_getElem? (i := 229) (by decide +kernel)) rfl
theorem wd247 : (.fieldLink RX8 15 "EnvelopeCard$Spread" "keys" "[I" : Cond) ∈ lw_ok := lm1 (List.mem_of_getElem? (i := 230) (by decide +kernel)) rfl
theorem wd248 : (.fieldLink RX8 19 "EnvelopeCard$Spread" "number" "I" : Cond) ∈ lw_ok := lm1 (List.mem_of_getElem? (i := 231) (by decide +kernel)) rfl
theorem wd249 : (.fieldLink RX2 71 "EnvelopeCard$Spread" "number" "I" : Cond) ∈ lw_ok := lm1 (List.mem_of_getElem? (i := 232) (by decide +kernel)) rfl
theorem wd250 : (.fieldLink RX8 23 "EnvelopeCard$Spread" "partHome" "J" : Cond) ∈ lw_ok := lm1 (List.mem_of_getElem? (i := 233) (by decide +kernel)) rfl
theorem wd251 : (.fieldLink RX2 62 "EnvelopeCard$Spread" "partHome" "J" : Cond) ∈ lw_ok := lm1 (List.mem_of_getElem? (i := 234) (by decide +kernel)) rfl
theorem wd261 : (.arrayClass .long : Cond) ∈ lw_ok := lm2 (List.mem_of_getElem? (i := 4) (by decide +kernel)) rfl
theorem wd262 : (.fieldLink RX2 12 "EnvelopeCard$Forecast" "walk" "LEnvelopeCard$Walk;" : Cond) ∈ lw_ok := lm2 (List.mem_of_getElem? (i := 5) (by decide +kernel)) rfl
theorem wd263 : (.fieldLink RX2 21 "EnvelopeCard$Forecast" "now" "LEnvelopeCard$Spread;" : Cond) ∈ lw_ok := lm2 (List.mem_of_getElem? (i := 6) (by decide +kernel)) rfl
theorem wd264 : (.fieldLink RX2 25 "EnvelopeCard$Forecast" "then" "LEnvelopeCard$Spread;" : Cond) ∈ lw_ok := lm2 (List.mem_of_getElem? (i := 7) (by decide +kernel)) rfl
theorem wd265 : (.fieldLink RX2 28 "EnvelopeCard$Forecast" "whole" "J" : Cond) ∈ lw_ok := lm2 (List.mem_of_getElem? (i := 8) (by decide +kernel)) rfl
theorem wd266 : (.fieldLink RX11 273 "EnvelopeCard$Forecast" "whole" "J" : Cond) ∈ lw_ok := lm2 (List.mem_of_getElem? (i := 9) (by decide +kernel)) rfl
theorem wd276 : (.classLink RX11 80 RX3 : Cond) ∈ lw_ok := lm2 (List.mem_of_getElem? (i := 19) (by decide +kernel)) rfl
theorem wd277 : (.instantiable RX3 6 : Cond) ∈ lw_ok := lm2 (List.mem_of_getElem? (i := 20) (by decide +kernel)) rfl
theorem wd279 : (.instanceMethod yX3_init : Cond) ∈ lw_ok := lm2 (List.mem_of_getElem? (i := 22) (by decide +kernel)) rfl
theorem wd280 : (.code yX3_init cX3_init 1 (none : Option Jvm.ClassFile.FieldType) : Cond) ∈ lw_ok := lm2 (List.mem_of_getElem? (i := 23) (by decide +kernel)) rfl
theorem wd281 : (.methodLink RX3 3 Lib.objectInit : Cond) ∈ lw_ok := lm2 (List.mem_of_getElem? (i := 24) (by decide +kernel)) rfl
theorem wd282 : (.fieldLink RX3 9 "EnvelopeCard$Order" "sequence" "[I" : Cond) ∈ lw_ok := lm2 (List.mem_of_getElem? (i := 25) (by decide +kernel)) rfl
theorem wd283 : (.fieldLink RX3 15 "EnvelopeCard$Order" "bestSequence" "[I" : Cond) ∈ lw_ok := lm2 (List.mem_of_getElem? (i := 26) (by decide +kernel)) rfl
theorem wd284 : (.fieldLink RX3 18 "EnvelopeCard$Order" "length" "I" : Cond) ∈ lw_ok := lm2 (List.mem_of_getElem? (i := 27) (by decide +kernel)) rfl
theorem wd285 : (.fieldLink RX11 313 "EnvelopeCard$Order" "length" "I" : Cond) ∈ lw_ok := lm2 (List.mem_of_getElem? (i := 28) (by decide +kernel)) rfl
theorem wd286 : (.fieldLink RX3 22 "EnvelopeCard$Order" "members" "I" : Cond) ∈ lw_ok := lm2 (List.mem_of_getElem? (i := 29) (by decide +kernel)) rfl
theorem wd287 : (.fieldLink RX3 25 "EnvelopeCard$Order" "most" "I" : Cond) ∈ lw_ok := lm2 (List.mem_of_getElem? (i := 30) (by decide +kernel)) rfl
theorem wd288 : (.fieldLink RX11 319 "EnvelopeCard$Order" "most" "I" : Cond) ∈ lw_ok := lm2 (List.mem_of_getElem? (i := 31) (by decide +kernel)) rfl
theorem wd289 : (.fieldLink RX3 28 "EnvelopeCard$Order" "least" "I" : Cond) ∈ lw_ok := lm2 (List.mem_of_getElem? (i := 32) (by decide +kernel)) rfl
theorem wd290 : (.fieldLink RX11 322 "EnvelopeCard$Order" "least" "I" : Cond) ∈ lw_ok := lm2 (List.mem_of_getElem? (i := 33) (by decide +kernel)) rfl
theorem wd304 : (.classLink RX11 87 RX4 : Cond) ∈ lw_ok := lm2 (List.mem_of_getElem? (i := 47) (by decide +kernel)) rfl
theorem wd305 : (.instantiable RX4 1 : Cond) ∈ lw_ok := lm2 (List.mem_of_getElem? (i := 48) (by decide +kernel)) rfl
theorem wd307 : (.instanceMethod yX4_init : Cond) ∈ lw_ok := lm2 (List.mem_of_getElem? (i := 50) (by decide +kernel)) rfl
theorem wd308 : (.code yX4_init cX4_init 1 (none : Option Jvm.ClassFile.FieldType) : Cond) ∈ lw_ok := lm2 (List.mem_of_getElem? (i := 51) (by decide +kernel)) rfl
theorem wd309 : (.methodLink RX4 5 Lib.objectInit : Cond) ∈ lw_ok := lm2 (List.mem_of_getElem? (i := 52) (by decide +kernel)) rfl
theorem wd310 : (.fieldLink RX4 11 "EnvelopeCard$Packing" "leastLaid" "[I" : Cond) ∈ lw_ok := lm2 (List.mem_of_getElem? (i := 53) (by decide +kernel)) rfl
theorem wd314 : (.fieldLink RX11 14 "EnvelopeCard" "rows" "LEnvelopeCard$Shelf;" : Cond) ∈ lw_ok := lm2 (List.mem_of_getElem? (i := 57) (by decide +kernel)) rfl
theorem wd315 : (.fieldLink RX11 18 "EnvelopeCard" "texts" "LEnvelopeCard$Shelf;" : Cond) ∈ lw_ok := lm2 (List.mem_of_getElem? (i := 58) (by decide +kernel)) rfl
theorem wd316 : (.fieldLink RX11 24 "EnvelopeCard" "desks" "LEnvelopeCard$Desks;" : Cond) ∈ lw_ok := lm2 (List.mem_of_getElem? (i := 59) (by decide +kernel)) rfl
theorem wd317 : (.fieldLink RX11 28 "EnvelopeCard" "draft" "LEnvelopeCard$Desks;" : Cond) ∈ lw_ok := lm2 (List.mem_of_getElem? (i := 60) (by decide +kernel)) rfl
theorem wd318 : (.fieldLink RX11 34 "EnvelopeCard" "round" "LEnvelopeCard$Round;" : Cond) ∈ lw_ok := lm2 (List.mem_of_getElem? (i := 61) (by decide +kernel)) rfl
theorem wd319 : (.fieldLink RX11 38 "EnvelopeCard" "kept" "[LEnvelopeCard$Round;" : Cond) ∈ lw_ok := lm2 (List.mem_of_getElem? (i := 62) (by decide +kernel)) rfl
theorem wd320 : (.fieldLink RX11 45 "EnvelopeCard" "years" "LEnvelopeCard$Years;" : Cond) ∈ lw_ok := lm2 (List.mem_of_getElem? (i := 63) (by decide +kernel)) rfl
theorem wd321 : (.fieldLink RX11 52 "EnvelopeCard" "walk" "LEnvelopeCard$Walk;" : Cond) ∈ lw_ok := lm2 (List.mem_of_getElem? (i := 64) (by decide +kernel)) rfl
theorem wd322 : (.fieldLink RX11 59 "EnvelopeCard" "lying" "LEnvelopeCard$Pot;" : Cond) ∈ lw_ok := lm2 (List.mem_of_getElem? (i := 65) (by decide +kernel)) rfl
theorem wd323 : (.fieldLink RX11 63 "EnvelopeCard" "trial" "LEnvelopeCard$Pot;" : Cond) ∈ lw_ok := lm2 (List.mem_of_getElem? (i := 66) (by decide +kernel)) rfl
theorem wd324 : (.fieldLink RX11 69 "EnvelopeCard" "card" "LEnvelopeCard$Card;" : Cond) ∈ lw_ok := lm2 (List.mem_of_getElem? (i := 67) (by decide +kernel)) rfl
theorem wd325 : (.fieldLink RX11 76 "EnvelopeCard" "forecast" "LEnvelopeCard$Forecast;" : Cond) ∈ lw_ok := lm2 (List.mem_of_getElem? (i := 68) (by decide +kernel)) rfl
theorem wd326 : (.fieldLink RX11 83 "EnvelopeCard" "sequence" "LEnvelopeCard$Order;" : Cond) ∈ lw_ok := lm2 (List.mem_of_getElem? (i := 69) (by decide +kernel)) rfl
theorem wd327 : (.fieldLink RX11 90 "EnvelopeCard" "packing" "LEnvelopeCard$Packing;" : Cond) ∈ lw_ok := lm2 (List.mem_of_getElem? (i := 70) (by decide +kernel)) rfl
theorem wd328 : (.fieldLink RX11 94 "EnvelopeCard" "findingCounts" "[I" : Cond) ∈ lw_ok := lm2 (List.mem_of_getElem? (i := 71) (by decide +kernel)) rfl
theorem wd329 : (.fieldLink RX11 98 "EnvelopeCard" "latestFinding" "I" : Cond) ∈ lw_ok := lm2 (List.mem_of_getElem? (i := 72) (by decide +kernel)) rfl
theorem wd330 : (.fieldLink RX11 102 "EnvelopeCard" "askedNumber" "I" : Cond) ∈ lw_ok := lm2 (List.mem_of_getElem? (i := 73) (by decide +kernel)) rfl
theorem wd331 : (.fieldLink RX11 105 "EnvelopeCard" "upperNumber" "J" : Cond) ∈ lw_ok := lm2 (List.mem_of_getElem? (i := 74) (by decide +kernel)) rfl
theorem wd332 : (.fieldLink RX11 109 "EnvelopeCard" "lowerNumber" "J" : Cond) ∈ lw_ok := lm2 (List.mem_of_getElem? (i := 75) (by decide +kernel)) rfl
theorem wd372 : (.methodLink RL 117 yX11_row : Cond) ∈ lw_ok := lm2 (List.mem_of_getElem? (i := 115) (by decide +kernel)) rfl
theorem wd373 : (.instanceMethod yX11_row : Cond) ∈ lw_ok := lm2 (List.mem_of_getElem? (i := 116) (by decide +kernel)) rfl
theorem wd374 : (.selects RX11 yX11_row yX11_row : Cond) ∈ lw_ok := lm2 (List.mem_of_getElem? (i := 117) (by decide +kernel)) rfl
theorem wd375 : (.code yX11_row cX11_row 3 (some .int) : Cond) ∈ lw_ok := lm2 (List.mem_of_getElem? (i := 118) (by decide +kernel)) rfl
theorem wd376 : (.methodLink RX11 112 yX7_names : Cond) ∈ lw_ok := lm2 (List.mem_of_getElem? (i := 119) (by decide +kernel)) rfl
theorem wd377 : (.instanceMethod yX7_names : Cond) ∈ lw_ok := lm2 (List.mem_of_getElem? (i := 120) (by decide +kernel)) rfl
theorem wd378 : (.selects RX7 yX7_names yX7_names : Cond) ∈ lw_ok := lm2 (List.mem_of_getElem? (i := 121) (by decide +kernel)) rfl
theorem wd379 : (.code yX7_names cX7_names 2 (some .boolean) : Cond) ∈ lw_ok := lm2 (List.mem_of_getElem? (i := 122) (by decide +kernel)) rfl
theorem wd380 : (.methodLink RX11 116 yX11_refuse : Cond) ∈ lw_ok := lm2 (List.mem_of_getElem? (i := 123) (by decide +kernel)) rfl
theorem wd382 : (.instanceMethod yX11_refuse : Cond) ∈ lw_ok := lm2 (List.mem_of_getElem? (i := 125) (by decide +kernel)) rfl
theorem wd383 : (.code yX11_refuse cX11_refuse 2 (some .int) : Cond) ∈ lw_ok := lm2 (List.mem_of_getElem? (i := 126) (by decide +kernel)) rfl
theorem wd384 : (.methodLink RX11 120 yX7_make : Cond) ∈ lw_ok := lm2 (List.mem_of_getElem? (i := 127) (by decide +kernel)) rfl
theorem wd385 : (.instanceMethod yX7_make : Cond) ∈ lw_ok := lm2 (List.mem_of_getElem? (i := 128) (by decide +kernel)) rfl
theorem wd386 : (.selects RX7 yX7_make yX7_make : Cond) ∈ lw_ok := lm2 (List.mem_of_getElem? (i := 129) (by decide +kernel)) rfl
theorem wd387 : (.code yX7_make cX7_make 5 (none : Option Jvm.ClassFile.FieldType) : Cond) ∈ lw_ok := lm2 (List.mem_of_getElem? (i := 130) (by decide +kernel)) rfl
theorem wd388 : (.methodLink RX7 36 yX7_setCell : Cond) ∈ lw_ok := lm2 (List.mem_of_getElem? (i := 131) (by decide +kernel)) rfl
theorem wd389 : (.instanceMethod yX7_setCell : Cond) ∈ lw_ok := lm2 (List.mem_of_getElem? (i := 132) (by decide +kernel)) rfl
theorem wd390 : (.selects RX7 yX7_setCell yX7_setCell : Cond) ∈ lw_ok := lm2 (List.mem_of_getElem? (i := 133) (by decide +kernel)) rfl
theorem wd391 : (.code yX7_setCell cX7_setCell 5 (none : Option Jvm.ClassFile.FieldType) : Cond) ∈ lw_ok := lm2 (List.mem_of_getElem? (i := 134) (by decide +kernel)) rfl
theorem wd392 : (.methodLink RX7 32 yX7_hasPlace : Cond) ∈ lw_ok := lm2 (List.mem_of_getElem? (i := 135) (by decide +kernel)) rfl
theorem wd393 : (.instanceMethod yX7_hasPlace : Cond) ∈ lw_ok := lm2 (List.mem_of_getElem? (i := 136) (by decide +kernel)) rfl
theorem wd394 : (.selects RX7 yX7_hasPlace yX7_hasPlace : Cond) ∈ lw_ok := lm2 (List.mem_of_getElem? (i := 137) (by decide +kernel)) rfl
theorem wd395 : (.code yX7_hasPlace cX7_hasPlace 3 (some .boolean) : Cond) ∈ lw_ok := lm2 (List.mem_of_getElem? (i := 138) (by decide +kernel)) rfl
theorem wd396 : (.methodLink RX7 28 yX7_sizeOf : Cond) ∈ lw_ok := lm2 (List.mem_of_getElem? (i := 139) (by decide +kernel)) rfl
theorem wd397 : (.instanceMethod yX7_sizeOf : Cond) ∈ lw_ok := lm2 (List.mem_of_getElem? (i := 140) (by decide +kernel)) rfl
theorem wd398 : (.selects RX7 yX7_sizeOf yX7_sizeOf : Cond) ∈ lw_ok := lm2 (List.mem_of_getElem? (i := 141) (by decide +kernel)) rfl
theorem wd399 : (.code yX7_sizeOf cX7_sizeOf 2 (some .int) : Cond) ∈ lw_ok := lm2 (List.mem_of_getElem? (i := 142) (by decide +kernel)) rfl
theorem wd400 : (.methodLink RL 120 yX11_lay : Cond) ∈ lw_ok := lm2 (List.mem_of_getElem? (i := 143) (by decide +kernel)) rfl
theorem wd401 : (.instanceMethod yX11_lay : Cond) ∈ lw_ok := lm2 (List.mem_of_getElem? (i := 144) (by decide +kernel)) rfl
theorem wd402 : (.selects RX11 yX11_lay yX11_lay : Cond) ∈ lw_ok := lm2 (List.mem_of_getElem? (i := 145) (by decide +kernel)) rfl
theorem wd403 : (.code yX11_lay cX11_lay 6 (some .int) : Cond) ∈ lw_ok := lm2 (List.mem_of_getElem? (i := 146) (by decide +kernel)) rfl
theorem wd404 : (.methodLink RX11 124 yX11_refusePlace : Cond) ∈ lw_ok := lm2 (List.mem_of_getElem? (i := 147) (by decide +kernel)) rfl
theorem wd406 : (.instanceMethod yX11_refusePlace : Cond) ∈ lw_ok := lm2 (List.mem_of_getElem? (i := 149) (by decide +kernel)) rfl
theorem wd407 : (.code yX11_refusePlace cX11_refusePlace 5 (some .int) : Cond) ∈ lw_ok := lm2 (List.mem_of_getElem? (i := 150) (by decide +kernel)) rfl
theorem wd408 : (.methodLink RX11 138 yX11_refuseMissing : Cond) ∈ lw_ok := lm2 (List.mem_of_getElem? (i := 151) (by decide +kernel)) rfl
theorem wd410 : (.instanceMethod yX11_refuseMissing : Cond) ∈ lw_ok := lm2 (List.mem_of_getElem? (i := 153) (by decide +kernel)) rfl
theorem wd411 : (.code yX11_refuseMissing cX11_refuseMissing 3 (some .int) : Cond) ∈ lw_ok := lm2 (List.mem_of_getElem? (i := 154) (by decide +kernel)) rfl
theorem wd412 : (.methodLink RX11 146 yX7_isThere : Cond) ∈ lw_ok := lm2 (List.mem_of_getElem? (i := 155) (by decide +kernel)) rfl
theorem wd413 : (.instanceMethod yX7_isThere : Cond) ∈ lw_ok := lm2 (List.mem_of_getElem? (i := 156) (by decide +kernel)) rfl
theorem wd414 : (.selects RX7 yX7_isThere yX7_isThere : Cond) ∈ lw_ok := lm2 (List.mem_of_getElem? (i := 157) (by decide +kernel)) rfl
theorem wd415 : (.code yX7_isThere cX7_isThere 2 (some .boolean) : Cond) ∈ lw_ok := lm2 (List.mem_of_getElem? (i := 158) (by decide +kernel)) rfl
theorem wd416 : (.methodLink RX11 413 yX7_hasPlace : Cond) ∈ lw_ok := lm2 (List.mem_of_getElem? (i := 159) (by decide +kernel)) rfl
theorem wd417 : (.methodLink RX11 128 yX7_cell : Cond) ∈ lw_ok := lm2 (List.mem_of_getElem? (i := 160) (by decide +kernel)) rfl
theorem wd418 : (.instanceMethod yX7_cell : Cond) ∈ lw_ok := lm2 (List.mem_of_getElem? (i := 161) (by decide +kernel)) rfl
theorem wd419 : (.selects RX7 yX7_cell yX7_cell : Cond) ∈ lw_ok := lm2 (List.mem_of_getElem? (i := 162) (by decide +kernel)) rfl
theorem wd420 : (.code yX7_cell cX7_cell 4 (some .int) : Cond) ∈ lw_ok := lm2 (List.mem_of_getElem? (i := 163) (by decide +kernel)) rfl
theorem wd421 : (.methodLink RX11 132 yX7_setCell : Cond) ∈ lw_ok := lm2 (List.mem_of_getElem? (i := 164) (by decide +kernel)) rfl
theorem wd422 : (.methodLink RX11 135 yX11_tell : Cond) ∈ lw_ok := lm2 (List.mem_of_getElem? (i := 165) (by decide +kernel)) rfl
theorem wd424 : (.instanceMethod yX11_tell : Cond) ∈ lw_ok := lm2 (List.mem_of_getElem? (i := 167) (by decide +kernel)) rfl
theorem wd425 : (.code yX11_tell cX11_tell 3 (some .int) : Cond) ∈ lw_ok := lm2 (List.mem_of_getElem? (i := 168) (by decide +kernel)) rfl
theorem wd426 : (.methodLink RL 43 yX11_law : Cond) ∈ lw_ok := lm2 (List.mem_of_getElem? (i := 169) (by decide +kernel)) rfl
theorem wd427 : (.instanceMethod yX11_law : Cond) ∈ lw_ok := lm2 (List.mem_of_getElem? (i := 170) (by decide +kernel)) rfl
theorem wd428 : (.selects RX11 yX11_law yX11_law : Cond) ∈ lw_ok := lm2 (List.mem_of_getElem? (i := 171) (by decide +kernel)) rfl
theorem wd429 : (.code yX11_law cX11_law 3 (some .int) : Cond) ∈ lw_ok := lm2 (List.mem_of_getElem? (i := 172) (by decide +kernel)) rfl
theorem wd430 : (.methodLink RL 46 yX11_name : Cond) ∈ lw_ok := lm2 (List.mem_of_getElem? (i := 173) (by decide +kernel)) rfl
theorem wd431 : (.instanceMethod yX11_name : Cond) ∈ lw_ok := lm2 (List.mem_of_getElem? (i := 174) (by decide +kernel)) rfl
theorem wd432 : (.selects RX11 yX11_name yX11_name : Cond) ∈ lw_ok := lm2 (List.mem_of_getElem? (i := 175) (by decide +kernel)) rfl
theorem wd433 : (.code yX11_name cX11_name 3 (some .int) : Cond) ∈ lw_ok := lm2 (List.mem_of_getElem? (i := 176) (by decide +kernel)) rfl
theorem wd434 : (.methodLink RL 49 yX11_link : Cond) ∈ lw_ok := lm2 (List.mem_of_getElem? (i := 177) (by decide +kernel)) rfl
theorem wd435 : (.instanceMethod yX11_link : Cond) ∈ lw_ok := lm2 (List.mem_of_getElem? (i := 178) (by decide +kernel)) rfl
theorem wd436 : (.selects RX11 yX11_link yX11_link : Cond) ∈ lw_ok := lm2 (List.mem_of_getElem? (i := 179) (by decide +kernel)) rfl
theorem wd437 : (.code yX11_link cX11_link 3 (some .int) : Cond) ∈ lw_ok := lm2 (List.mem_of_getElem? (i := 180) (by decide +kernel)) rfl
theorem wd438 : (.methodLink RL 52 yX11_begin : Cond) ∈ lw_ok := lm2 (List.mem_of_getElem? (i := 181) (by decide +kernel)) rfl
theorem wd439 : (.instanceMethod yX11_begin : Cond) ∈ lw_ok := lm2 (List.mem_of_getElem? (i := 182) (by decide +kernel)) rfl
theorem wd440 : (.selects RX11 yX11_begin yX11_begin : Cond) ∈ lw_ok := lm2 (List.mem_of_getElem? (i := 183) (by decide +kernel)) rfl
theorem wd441 : (.code yX11_begin cX11_begin 3 (some .int) : Cond) ∈ lw_ok := lm2 (List.mem_of_getElem? (i := 184) (by decide +kernel)) rfl
theorem wd442 : (.methodLink RX11 173 yX1_names : Cond) ∈ lw_ok := lm2 (List.mem_of_getElem? (i := 185) (by decide +kernel)) rfl
theorem wd443 : (.instanceMethod yX1_names : Cond) ∈ lw_ok := lm2 (List.mem_of_getElem? (i := 186) (by decide +kernel)) rfl
theorem wd444 : (.selects RX1 yX1_names yX1_names : Cond) ∈ lw_ok := lm2 (List.mem_of_getElem? (i := 187) (by decide +kernel)) rfl
theorem wd445 : (.code yX1_names cX1_names 2 (some .boolean) : Cond) ∈ lw_ok := lm2 (List.mem_of_getElem? (i := 188) (by decide +kernel)) rfl
theorem wd446 : (.methodLink RX11 211 yX6_beginAt : Cond) ∈ lw_ok := lm2 (List.mem_of_getElem? (i := 189) (by decide +kernel)) rfl
theorem wd447 : (.instanceMethod yX6_beginAt : Cond) ∈ lw_ok := lm2 (List.mem_of_getElem? (i := 190) (by decide +kernel)) rfl
theorem wd448 : (.selects RX6 yX6_beginAt yX6_beginAt : Cond) ∈ lw_ok := lm2 (List.mem_of_getElem? (i := 191) (by decide +kernel)) rfl
theorem wd449 : (.code yX6_beginAt cX6_beginAt 3 (none : Option Jvm.ClassFile.FieldType) : Cond) ∈ lw_ok := lm2 (List.mem_of_getElem? (i := 192) (by decide +kernel)) rfl
theorem wd450 : (.methodLink RL 59 yX11_go : Cond) ∈ lw_ok := lm2 (List.mem_of_getElem? (i := 193) (by decide +kernel)) rfl
theorem wd451 : (.instanceMethod yX11_go : Cond) ∈ lw_ok := lm2 (List.mem_of_getElem? (i := 194) (by decide +kernel)) rfl
theorem wd452 : (.selects RX11 yX11_go yX11_go : Cond) ∈ lw_ok := lm2 (List.mem_of_getElem? (i := 195) (by decide +kernel)) rfl
theorem wd453 : (.code yX11_go cX11_go 6 (some .int) : Cond) ∈ lw_ok := lm2 (List.mem_of_getElem? (i := 196) (by decide +kernel)) rfl
theorem wd454 : (.constantLong RX11 214 (2147483647) : Cond) ∈ lw_ok := lm2 (List.mem_of_getElem? (i := 197) (by decide +kernel)) rfl
theorem wd455 : (.methodLink RX11 220 yX11_passOneHour : Cond) ∈ lw_ok := lm2 (List.mem_of_getElem? (i := 198) (by decide +kernel)) rfl
theorem wd457 : (.instanceMethod yX11_passOneHour : Cond) ∈ lw_ok := lm2 (List.mem_of_getElem? (i := 200) (by decide +kernel)) rfl
theorem wd458 : (.code yX11_passOneHour cX11_passOneHour 5 (some .long) : Cond) ∈ lw_ok := lm2 (List.mem_of_getElem? (i := 201) (by decide +kernel)) rfl
theorem wd459 : (.methodLink RX11 423 yX9_passHour : Cond) ∈ lw_ok := lm2 (List.mem_of_getElem? (i := 202) (by decide +kernel)) rfl
theorem wd460 : (.instanceMethod yX9_passHour : Cond) ∈ lw_ok := lm2 (List.mem_of_getElem? (i := 203) (by decide +kernel)) rfl
theorem wd461 : (.selects RX9 yX9_passHour yX9_passHour : Cond) ∈ lw_ok := lm2 (List.mem_of_getElem? (i := 204) (by decide +kernel)) rfl
theorem wd462 : (.code yX9_passHour cX9_passHour 7 (none : Option Jvm.ClassFile.FieldType) : Cond) ∈ lw_ok := lm2 (List.mem_of_getElem? (i := 205) (by decide +kernel)) rfl
theorem wd463 : (.methodLink RX9 31 yX1_isAway : Cond) ∈ lw_ok := lm2 (List.mem_of_getElem? (i := 206) (by decide +kernel)) rfl
theorem wd464 : (.instanceMethod yX1_isAway : Cond) ∈ lw_ok := lm2 (List.mem_of_getElem? (i := 207) (by decide +kernel)) rfl
theorem wd465 : (.selects RX1 yX1_isAway yX1_isAway : Cond) ∈ lw_ok := lm2 (List.mem_of_getElem? (i := 208) (by decide +kernel)) rfl
theorem wd466 : (.code yX1_isAway cX1_isAway 3 (some .boolean) : Cond) ∈ lw_ok := lm2 (List.mem_of_getElem? (i := 209) (by decide +kernel)) rfl
theorem wd467 : (.methodLink RX1 19 yX1_fact : Cond) ∈ lw_ok := lm2 (List.mem_of_getElem? (i := 210) (by decide +kernel)) rfl
theorem wd468 : (.instanceMethod yX1_fact : Cond) ∈ lw_ok := lm2 (List.mem_of_getElem? (i := 211) (by decide +kernel)) rfl
theorem wd469 : (.selects RX1 yX1_fact yX1_fact : Cond) ∈ lw_ok := lm2 (List.mem_of_getElem? (i := 212) (by decide +kernel)) rfl
theorem wd470 : (.code yX1_fact cX1_fact 4 (some .int) : Cond) ∈ lw_ok := lm2 (List.mem_of_getElem? (i := 213) (by decide +kernel)) rfl
theorem wd471 : (.methodLink RX9 37 yX9_signHere : Cond) ∈ lw_ok := lm2 (List.mem_of_getElem? (i := 214) (by decide +kernel)) rfl
theorem wd472 : (.instanceMethod yX9_signHere : Cond) ∈ lw_ok := lm2 (List.mem_of_getElem? (i := 215) (by decide +kernel)) rfl
theorem wd473 : (.selects RX9 yX9_signHere yX9_signHere : Cond) ∈ lw_ok := lm2 (List.mem_of_getElem? (i := 216) (by decide +kernel)) rfl
theorem wd474 : (.code yX9_signHere cX9_signHere 1 (none : Option Jvm.ClassFile.FieldType) : Cond) ∈ lw_ok := lm2 (List.mem_of_getElem? (i := 217) (by decide +kernel)) rfl
theorem wd475 : (.methodLink RX9 40 yX1_nextOf : Cond) ∈ lw_ok := lm2 (List.mem_of_getElem? (i := 218) (by decide +kernel)) rfl
theorem wd476 : (.instanceMethod yX1_nextOf : Cond) ∈ lw_ok := lm2 (List.mem_of_getElem? (i := 219) (by decide +kernel)) rfl
theorem wd477 : (.selects RX1 yX1_nextOf yX1_nextOf : Cond) ∈ lw_ok := lm2 (List.mem_of_getElem? (i := 220) (by decide +kernel)) rfl
theorem wd478 : (.code yX1_nextOf cX1_nextOf 9 (some .int) : Cond) ∈ lw_ok := lm2 (List.mem_of_getElem? (i := 221) (by decide +kernel)) rfl
theorem wd479 : (.methodLink RX1 31 yX1_all : Cond) ∈ lw_ok := lm2 (List.mem_of_getElem? (i := 222) (by decide +kernel)) rfl
theorem wd480 : (.instanceMethod yX1_all : Cond) ∈ lw_ok := lm2 (List.mem_of_getElem? (i := 223) (by decide +kernel)) rfl
theorem wd481 : (.selects RX1 yX1_all yX1_all : Cond) ∈ lw_ok := lm2 (List.mem_of_getElem? (i := 224) (by decide +kernel)) rfl
theorem wd482 : (.code yX1_all cX1_all 1 (some .int) : Cond) ∈ lw_ok := lm2 (List.mem_of_getElem? (i := 225) (by decide +kernel)) rfl
theorem wd483 : (.methodLink RX1 35 yX1_isAway : Cond) ∈ lw_ok := lm2 (List.mem_of_getElem? (i := 226) (by decide +kernel)) rfl
theorem wd484 : (.methodLink RX1 38 yX1_rankOf : Cond) ∈ lw_ok := lm2 (List.mem_of_getElem? (i := 227) (by decide +kernel)) rfl
theorem wd485 : (.static yX1_rankOf : Cond) ∈ lw_ok := lm2 (List.mem_of_getElem? (i := 228) (by decide +kernel)) rfl
theorem wd486 : (.code yX1_rankOf cX1_rankOf 4 (some .int) : Cond) ∈ lw_ok := lm2 (List.mem_of_getElem? (i := 229) (by decide +kernel)) rfl
theorem wd487 : (.methodLink RX1 42 Lib.Math.abs.name : Cond) ∈ lw_ok := lm2 (List.mem_of_getElem? (i := 230) (by decide +kernel)) rfl
theorem wd488 : (.static Lib.Math.abs.name : Cond) ∈ lw_ok := lm2 (List.mem_of_getElem? (i := 231) (by decide +kernel)) rfl
theorem wd489 : (.code Lib.Math.abs.name Lib.Math.abs.code 1 (some .int) : Cond) ∈ lw_ok := lm2 (List.mem_of_getElem? (i := 232) (by decide +kernel)) rfl
theorem wd490 : (.methodLink RX9 44 yX1_isOfKind : Cond) ∈ lw_ok := lm2 (List.mem_of_getElem? (i := 233) (by decide +kernel)) rfl
theorem wd491 : (.instanceMethod yX1_isOfKind : Cond) ∈ lw_ok := lm2 (List.mem_of_getElem? (i := 234) (by decide +kernel)) rfl
theorem wd492 : (.selects RX1 yX1_isOfKind yX1_isOfKind : Cond) ∈ lw_ok := lm2 (List.mem_of_getElem? (i := 235) (by decide +kernel)) rfl
theorem wd493 : (.code yX1_isOfKind cX1_isOfKind 4 (some .boolean) : Cond) ∈ lw_ok := lm2 (List.mem_of_getElem? (i := 236) (by decide +kernel)) rfl
theorem wd494 : (.methodLink RX9 47 yX1_heapOf : Cond) ∈ lw_ok := lm2 (List.mem_of_getElem? (i := 237) (by decide +kernel)) rfl
theorem wd495 : (.instanceMethod yX1_heapOf : Cond) ∈ lw_ok := lm2 (List.mem_of_getElem? (i := 238) (by decide +kernel)) rfl
theorem wd496 : (.selects RX1 yX1_heapOf yX1_heapOf : Cond) ∈ lw_ok := lm2 (List.mem_of_getElem? (i := 239) (by decide +kernel)) rfl
theorem wd497 : (.code yX1_heapOf cX1_heapOf 2 (some .int) : Cond) ∈ lw_ok := lm3 (List.mem_of_getElem? (i := 0) (by decide +kernel)) rfl
theorem wd498 : (.methodLink RX11 430 yX9_signerAt : Cond) ∈ lw_ok := lm3 (List.mem_of_getElem? (i := 1) (by decide +kernel)) rfl
theorem wd499 : (.instanceMethod yX9_signerAt : Cond) ∈ lw_ok := lm3 (List.mem_of_getElem? (i := 2) (by decide +kernel)) rfl
theorem wd500 : (.selects RX9 yX9_signerAt yX9_signerAt : Cond) ∈ lw_ok := lm3 (List.mem_of_getElem? (i := 3) (by decide +kernel)) rfl
theorem wd501 : (.code yX9_signerAt cX9_signerAt 2 (some .int) : Cond) ∈ lw_ok := lm3 (List.mem_of_getElem? (i := 4) (by decide +kernel)) rfl
theorem wd502 : (.methodLink RX11 433 yX11_sign : Cond) ∈ lw_ok := lm3 (List.mem_of_getElem? (i := 5) (by decide +kernel)) rfl
theorem wd504 : (.instanceMethod yX11_sign : Cond) ∈ lw_ok := lm3 (List.mem_of_getElem? (i := 7) (by decide +kernel)) rfl
theorem wd505 : (.code yX11_sign cX11_sign 2 (none : Option Jvm.ClassFile.FieldType) : Cond) ∈ lw_ok := lm3 (List.mem_of_getElem? (i := 8) (by decide +kernel)) rfl
theorem wd506 : (.methodLink RX11 198 yX5_layFrom : Cond) ∈ lw_ok := lm3 (List.mem_of_getElem? (i := 9) (by decide +kernel)) rfl
theorem wd507 : (.instanceMethod yX5_layFrom : Cond) ∈ lw_ok := lm3 (List.mem_of_getElem? (i := 10) (by decide +kernel)) rfl
theorem wd508 : (.selects RX5 yX5_layFrom yX5_layFrom : Cond) ∈ lw_ok := lm3 (List.mem_of_getElem? (i := 11) (by decide +kernel)) rfl
theorem wd509 : (.code yX5_layFrom cX5_layFrom 3 (none : Option Jvm.ClassFile.FieldType) : Cond) ∈ lw_ok := lm3 (List.mem_of_getElem? (i := 12) (by decide +kernel)) rfl
theorem wd510 : (.methodLink RX5 38 yX5_copyTermsFrom : Cond) ∈ lw_ok := lm3 (List.mem_of_getElem? (i := 13) (by decide +kernel)) rfl
theorem wd511 : (.instanceMethod yX5_copyTermsFrom : Cond) ∈ lw_ok := lm3 (List.mem_of_getElem? (i := 14) (by decide +kernel)) rfl
theorem wd512 : (.selects RX5 yX5_copyTermsFrom yX5_copyTermsFrom : Cond) ∈ lw_ok := lm3 (List.mem_of_getElem? (i := 15) (by decide +kernel)) rfl
theorem wd513 : (.code yX5_copyTermsFrom cX5_copyTermsFrom 2 (none : Option Jvm.ClassFile.FieldType) : Cond) ∈ lw_ok := lm3 (List.mem_of_getElem? (i := 16) (by decide +kernel)) rfl
theorem wd514 : (.methodLink RX5 35 yX5_clear : Cond) ∈ lw_ok := lm3 (List.mem_of_getElem? (i := 17) (by decide +kernel)) rfl
theorem wd515 : (.instanceMethod yX5_clear : Cond) ∈ lw_ok := lm3 (List.mem_of_getElem? (i := 18) (by decide +kernel)) rfl
theorem wd516 : (.selects RX5 yX5_clear yX5_clear : Cond) ∈ lw_ok := lm3 (List.mem_of_getElem? (i := 19) (by decide +kernel)) rfl
theorem wd517 : (.code yX5_clear cX5_clear 1 (none : Option Jvm.ClassFile.FieldType) : Cond) ∈ lw_ok := lm3 (List.mem_of_getElem? (i := 20) (by decide +kernel)) rfl
theorem wd518 : (.methodLink RX5 42 yX6_isCrossed : Cond) ∈ lw_ok := lm3 (List.mem_of_getElem? (i := 21) (by decide +kernel)) rfl
theorem wd519 : (.instanceMethod yX6_isCrossed : Cond) ∈ lw_ok := lm3 (List.mem_of_getElem? (i := 22) (by decide +kernel)) rfl
theorem wd520 : (.selects RX6 yX6_isCrossed yX6_isCrossed : Cond) ∈ lw_ok := lm3 (List.mem_of_getElem? (i := 23) (by decide +kernel)) rfl
theorem wd521 : (.code yX6_isCrossed cX6_isCrossed 2 (some .boolean) : Cond) ∈ lw_ok := lm3 (List.mem_of_getElem? (i := 24) (by decide +kernel)) rfl
theorem wd522 : (.methodLink RX5 46 yX6_giftOf : Cond) ∈ lw_ok := lm3 (List.mem_of_getElem? (i := 25) (by decide +kernel)) rfl
theorem wd523 : (.instanceMethod yX6_giftOf : Cond) ∈ lw_ok := lm3 (List.mem_of_getElem? (i := 26) (by decide +kernel)) rfl
theorem wd524 : (.selects RX6 yX6_giftOf yX6_giftOf : Cond) ∈ lw_ok := lm3 (List.mem_of_getElem? (i := 27) (by decide +kernel)) rfl
theorem wd525 : (.code yX6_giftOf cX6_giftOf 2 (some .int) : Cond) ∈ lw_ok := lm3 (List.mem_of_getElem? (i := 28) (by decide +kernel)) rfl
theorem wd526 : (.methodLink RX6 61 yX6_isCrossed : Cond) ∈ lw_ok := lm3 (List.mem_of_getElem? (i := 29) (by decide +kernel)) rfl
theorem wd527 : (.methodLink RX5 50 yX5_take : Cond) ∈ lw_ok := lm3 (List.mem_of_getElem? (i := 30) (by decide +kernel)) rfl
theorem wd528 : (.instanceMethod yX5_take : Cond) ∈ lw_ok := lm3 (List.mem_of_getElem? (i := 31) (by decide +kernel)) rfl
theorem wd529 : (.selects RX5 yX5_take yX5_take : Cond) ∈ lw_ok := lm3 (List.mem_of_getElem? (i := 32) (by decide +kernel)) rfl
theorem wd530 : (.code yX5_take cX5_take 2 (none : Option Jvm.ClassFile.FieldType) : Cond) ∈ lw_ok := lm3 (List.mem_of_getElem? (i := 33) (by decide +kernel)) rfl
theorem wd531 : (.methodLink RX11 190 yX0_layFrom : Cond) ∈ lw_ok := lm3 (List.mem_of_getElem? (i := 34) (by decide +kernel)) rfl
theorem wd532 : (.instanceMethod yX0_layFrom : Cond) ∈ lw_ok := lm3 (List.mem_of_getElem? (i := 35) (by decide +kernel)) rfl
theorem wd533 : (.selects RX0 yX0_layFrom yX0_layFrom : Cond) ∈ lw_ok := lm3 (List.mem_of_getElem? (i := 36) (by decide +kernel)) rfl
theorem wd534 : (.code yX0_layFrom cX0_layFrom 3 (none : Option Jvm.ClassFile.FieldType) : Cond) ∈ lw_ok := lm3 (List.mem_of_getElem? (i := 37) (by decide +kernel)) rfl
theorem wd535 : (.methodLink RX0 15 yX6_isCrossed : Cond) ∈ lw_ok := lm3 (List.mem_of_getElem? (i := 38) (by decide +kernel)) rfl
theorem wd536 : (.methodLink RX0 21 yX6_wordOf : Cond) ∈ lw_ok := lm3 (List.mem_of_getElem? (i := 39) (by decide +kernel)) rfl
theorem wd537 : (.instanceMethod yX6_wordOf : Cond) ∈ lw_ok := lm3 (List.mem_of_getElem? (i := 40) (by decide +kernel)) rfl
theorem wd538 : (.selects RX6 yX6_wordOf yX6_wordOf : Cond) ∈ lw_ok := lm3 (List.mem_of_getElem? (i := 41) (by decide +kernel)) rfl
theorem wd539 : (.code yX6_wordOf cX6_wordOf 2 (some .int) : Cond) ∈ lw_ok := lm3 (List.mem_of_getElem? (i := 42) (by decide +kernel)) rfl
theorem wd540 : (.methodLink RX0 25 yX0_add : Cond) ∈ lw_ok := lm3 (List.mem_of_getElem? (i := 43) (by decide +kernel)) rfl
theorem wd541 : (.instanceMethod yX0_add : Cond) ∈ lw_ok := lm3 (List.mem_of_getElem? (i := 44) (by decide +kernel)) rfl
theorem wd542 : (.selects RX0 yX0_add yX0_add : Cond) ∈ lw_ok := lm3 (List.mem_of_getElem? (i := 45) (by decide +kernel)) rfl
theorem wd543 : (.code yX0_add cX0_add 2 (none : Option Jvm.ClassFile.FieldType) : Cond) ∈ lw_ok := lm3 (List.mem_of_getElem? (i := 46) (by decide +kernel)) rfl
theorem wd544 : (.methodLink RX11 332 yX5_gives : Cond) ∈ lw_ok := lm3 (List.mem_of_getElem? (i := 47) (by decide +kernel)) rfl
theorem wd545 : (.instanceMethod yX5_gives : Cond) ∈ lw_ok := lm3 (List.mem_of_getElem? (i := 48) (by decide +kernel)) rfl
theorem wd546 : (.selects RX5 yX5_gives yX5_gives : Cond) ∈ lw_ok := lm3 (List.mem_of_getElem? (i := 49) (by decide +kernel)) rfl
theorem wd547 : (.code yX5_gives cX5_gives 3 (some .int) : Cond) ∈ lw_ok := lm3 (List.mem_of_getElem? (i := 50) (by decide +kernel)) rfl
theorem wd548 : (.methodLink RX5 54 yX1_isOfKind : Cond) ∈ lw_ok := lm3 (List.mem_of_getElem? (i := 51) (by decide +kernel)) rfl
theorem wd549 : (.methodLink RX5 60 yX5_wouldGive : Cond) ∈ lw_ok := lm3 (List.mem_of_getElem? (i := 52) (by decide +kernel)) rfl
theorem wd550 : (.instanceMethod yX5_wouldGive : Cond) ∈ lw_ok := lm3 (List.mem_of_getElem? (i := 53) (by decide +kernel)) rfl
theorem wd551 : (.selects RX5 yX5_wouldGive yX5_wouldGive : Cond) ∈ lw_ok := lm3 (List.mem_of_getElem? (i := 54) (by decide +kernel)) rfl
theorem wd552 : (.code yX5_wouldGive cX5_wouldGive 4 (some .int) : Cond) ∈ lw_ok := lm3 (List.mem_of_getElem? (i := 55) (by decide +kernel)) rfl
theorem wd553 : (.methodLink RX5 64 yX5_ownOf : Cond) ∈ lw_ok := lm3 (List.mem_of_getElem? (i := 56) (by decide +kernel)) rfl
theorem wd554 : (.instanceMethod yX5_ownOf : Cond) ∈ lw_ok := lm3 (List.mem_of_getElem? (i := 57) (by decide +kernel)) rfl
theorem wd555 : (.selects RX5 yX5_ownOf yX5_ownOf : Cond) ∈ lw_ok := lm3 (List.mem_of_getElem? (i := 58) (by decide +kernel)) rfl
theorem wd556 : (.code yX5_ownOf cX5_ownOf 4 (some .int) : Cond) ∈ lw_ok := lm3 (List.mem_of_getElem? (i := 59) (by decide +kernel)) rfl
theorem wd557 : (.methodLink RX5 73 yX1_fact : Cond) ∈ lw_ok := lm3 (List.mem_of_getElem? (i := 60) (by decide +kernel)) rfl
theorem wd558 : (.methodLink RX5 67 Lib.Math.max.name : Cond) ∈ lw_ok := lm3 (List.mem_of_getElem? (i := 61) (by decide +kernel)) rfl
theorem wd559 : (.methodLink RX11 194 yX0_wordBy : Cond) ∈ lw_ok := lm3 (List.mem_of_getElem? (i := 62) (by decide +kernel)) rfl
theorem wd560 : (.instanceMethod yX0_wordBy : Cond) ∈ lw_ok := lm3 (List.mem_of_getElem? (i := 63) (by decide +kernel)) rfl
theorem wd561 : (.selects RX0 yX0_wordBy yX0_wordBy : Cond) ∈ lw_ok := lm3 (List.mem_of_getElem? (i := 64) (by decide +kernel)) rfl
theorem wd562 : (.code yX0_wordBy cX0_wordBy 4 (some .int) : Cond) ∈ lw_ok := lm3 (List.mem_of_getElem? (i := 65) (by decide +kernel)) rfl
theorem wd563 : (.methodLink RX0 29 yX1_isOfKind : Cond) ∈ lw_ok := lm3 (List.mem_of_getElem? (i := 66) (by decide +kernel)) rfl
theorem wd564 : (.methodLink RX0 35 yX0_mostOften : Cond) ∈ lw_ok := lm3 (List.mem_of_getElem? (i := 67) (by decide +kernel)) rfl
theorem wd565 : (.instanceMethod yX0_mostOften : Cond) ∈ lw_ok := lm3 (List.mem_of_getElem? (i := 68) (by decide +kernel)) rfl
theorem wd566 : (.selects RX0 yX0_mostOften yX0_mostOften : Cond) ∈ lw_ok := lm3 (List.mem_of_getElem? (i := 69) (by decide +kernel)) rfl
theorem wd567 : (.code yX0_mostOften cX0_mostOften 4 (some .int) : Cond) ∈ lw_ok := lm3 (List.mem_of_getElem? (i := 70) (by decide +kernel)) rfl
theorem wd568 : (.methodLink RX0 39 yX1_fact : Cond) ∈ lw_ok := lm3 (List.mem_of_getElem? (i := 71) (by decide +kernel)) rfl
theorem wd569 : (.methodLink RX11 450 yX6_cross : Cond) ∈ lw_ok := lm3 (List.mem_of_getElem? (i := 72) (by decide +kernel)) rfl
theorem wd570 : (.instanceMethod yX6_cross : Cond) ∈ lw_ok := lm3 (List.mem_of_getElem? (i := 73) (by decide +kernel)) rfl
theorem wd571 : (.selects RX6 yX6_cross yX6_cross : Cond) ∈ lw_ok := lm3 (List.mem_of_getElem? (i := 74) (by decide +kernel)) rfl
theorem wd572 : (.code yX6_cross cX6_cross 4 (none : Option Jvm.ClassFile.FieldType) : Cond) ∈ lw_ok := lm3 (List.mem_of_getElem? (i := 75) (by decide +kernel)) rfl
theorem wd573 : (.methodLink RX11 443 yX6_moveTo : Cond) ∈ lw_ok := lm3 (List.mem_of_getElem? (i := 76) (by decide +kernel)) rfl
theorem wd574 : (.instanceMethod yX6_moveTo : Cond) ∈ lw_ok := lm3 (List.mem_of_getElem? (i := 77) (by decide +kernel)) rfl
theorem wd575 : (.selects RX6 yX6_moveTo yX6_moveTo : Cond) ∈ lw_ok := lm3 (List.mem_of_getElem? (i := 78) (by decide +kernel)) rfl
theorem wd576 : (.code yX6_moveTo cX6_moveTo 3 (none : Option Jvm.ClassFile.FieldType) : Cond) ∈ lw_ok := lm3 (List.mem_of_getElem? (i := 79) (by decide +kernel)) rfl
theorem wd577 : (.constantLong RX11 446 (48271) : Cond) ∈ lw_ok := lm3 (List.mem_of_getElem? (i := 80) (by decide +kernel)) rfl
theorem wd578 : (.constantLong RX11 448 (12) : Cond) ∈ lw_ok := lm3 (List.mem_of_getElem? (i := 81) (by decide +kernel)) rfl
theorem wd579 : (.methodLink RL 62 yX11_where : Cond) ∈ lw_ok := lm3 (List.mem_of_getElem? (i := 82) (by decide +kernel)) rfl
theorem wd580 : (.instanceMethod yX11_where : Cond) ∈ lw_ok := lm3 (List.mem_of_getElem? (i := 83) (by decide +kernel)) rfl
theorem wd581 : (.selects RX11 yX11_where yX11_where : Cond) ∈ lw_ok := lm3 (List.mem_of_getElem? (i := 84) (by decide +kernel)) rfl
theorem wd582 : (.code yX11_where cX11_where 1 (some .int) : Cond) ∈ lw_ok := lm3 (List.mem_of_getElem? (i := 85) (by decide +kernel)) rfl
theorem wd583 : (.methodLink RL 65 yX11_told : Cond) ∈ lw_ok := lm3 (List.mem_of_getElem? (i := 86) (by decide +kernel)) rfl
theorem wd584 : (.instanceMethod yX11_told : Cond) ∈ lw_ok := lm3 (List.mem_of_getElem? (i := 87) (by decide +kernel)) rfl
theorem wd585 : (.selects RX11 yX11_told yX11_told : Cond) ∈ lw_ok := lm3 (List.mem_of_getElem? (i := 88) (by decide +kernel)) rfl
theorem wd586 : (.code yX11_told cX11_told 3 (some .int) : Cond) ∈ lw_ok := lm3 (List.mem_of_getElem? (i := 89) (by decide +kernel)) rfl
theorem wd587 : (.methodLink RX11 227 yX6_factTold : Cond) ∈ lw_ok := lm3 (List.mem_of_getElem? (i := 90) (by decide +kernel)) rfl
theorem wd588 : (.instanceMethod yX6_factTold : Cond) ∈ lw_ok := lm3 (List.mem_of_getElem? (i := 91) (by decide +kernel)) rfl
theorem wd589 : (.selects RX6 yX6_factTold yX6_factTold : Cond) ∈ lw_ok := lm3 (List.mem_of_getElem? (i := 92) (by decide +kernel)) rfl
theorem wd590 : (.code yX6_factTold cX6_factTold 3 (some .int) : Cond) ∈ lw_ok := lm3 (List.mem_of_getElem? (i := 93) (by decide +kernel)) rfl
theorem wd591 : (.methodLink RX6 65 yX6_giftOf : Cond) ∈ lw_ok := lm3 (List.mem_of_getElem? (i := 94) (by decide +kernel)) rfl
theorem wd592 : (.methodLink RX6 69 yX6_wordOf : Cond) ∈ lw_ok := lm3 (List.mem_of_getElem? (i := 95) (by decide +kernel)) rfl
theorem wd593 : (.methodLink RL 71 yX11_coins : Cond) ∈ lw_ok := lm3 (List.mem_of_getElem? (i := 96) (by decide +kernel)) rfl
theorem wd594 : (.instanceMethod yX11_coins : Cond) ∈ lw_ok := lm3 (List.mem_of_getElem? (i := 97) (by decide +kernel)) rfl
theorem wd595 : (.selects RX11 yX11_coins yX11_coins : Cond) ∈ lw_ok := lm3 (List.mem_of_getElem? (i := 98) (by decide +kernel)) rfl
theorem wd596 : (.code yX11_coins cX11_coins 1 (some .int) : Cond) ∈ lw_ok := lm3 (List.mem_of_getElem? (i := 99) (by decide +kernel)) rfl
theorem wd597 : (.methodLink RX11 230 yX6_numberOfGivers : Cond) ∈ lw_ok := lm3 (List.mem_of_getElem? (i := 100) (by decide +kernel)) rfl
theorem wd598 : (.instanceMethod yX6_numberOfGivers : Cond) ∈ lw_ok := lm3 (List.mem_of_getElem? (i := 101) (by decide +kernel)) rfl
theorem wd599 : (.selects RX6 yX6_numberOfGivers yX6_numberOfGivers : Cond) ∈ lw_ok := lm3 (List.mem_of_getElem? (i := 102) (by decide +kernel)) rfl
theorem wd600 : (.code yX6_numberOfGivers cX6_numberOfGivers 3 (some .int) : Cond) ∈ lw_ok := lm3 (List.mem_of_getElem? (i := 103) (by decide +kernel)) rfl
theorem wd601 : (.methodLink RL 55 yX11_keep : Cond) ∈ lw_ok := lm3 (List.mem_of_getElem? (i := 104) (by decide +kernel)) rfl
theorem wd602 : (.instanceMethod yX11_keep : Cond) ∈ lw_ok := lm3 (List.mem_of_getElem? (i := 105) (by decide +kernel)) rfl
theorem wd603 : (.selects RX11 yX11_keep yX11_keep : Cond) ∈ lw_ok := lm3 (List.mem_of_getElem? (i := 106) (by decide +kernel)) rfl
theorem wd604 : (.code yX11_keep cX11_keep 3 (some .int) : Cond) ∈ lw_ok := lm3 (List.mem_of_getElem? (i := 107) (by decide +kernel)) rfl
theorem wd605 : (.methodLink RX11 253 yX11_keptAt : Cond) ∈ lw_ok := lm3 (List.mem_of_getElem? (i := 108) (by decide +kernel)) rfl
theorem wd607 : (.instanceMethod yX11_keptAt : Cond) ∈ lw_ok := lm3 (List.mem_of_getElem? (i := 110) (by decide +kernel)) rfl
theorem wd608 : (.code yX11_keptAt cX11_keptAt 2 (some (.object "EnvelopeCard$Round")) : Cond) ∈ lw_ok := lm3 (List.mem_of_getElem? (i := 111) (by decide +kernel)) rfl
theorem wd609 : (.methodLink RX11 257 yX6_copyFrom : Cond) ∈ lw_ok := lm3 (List.mem_of_getElem? (i := 112) (by decide +kernel)) rfl
theorem wd610 : (.instanceMethod yX6_copyFrom : Cond) ∈ lw_ok := lm3 (List.mem_of_getElem? (i := 113) (by decide +kernel)) rfl
theorem wd611 : (.selects RX6 yX6_copyFrom yX6_copyFrom : Cond) ∈ lw_ok := lm3 (List.mem_of_getElem? (i := 114) (by decide +kernel)) rfl
theorem wd612 : (.code yX6_copyFrom cX6_copyFrom 2 (none : Option Jvm.ClassFile.FieldType) : Cond) ∈ lw_ok := lm3 (List.mem_of_getElem? (i := 115) (by decide +kernel)) rfl
theorem wd613 : (.methodLink RX6 57 yX6_copyCells : Cond) ∈ lw_ok := lm3 (List.mem_of_getElem? (i := 116) (by decide +kernel)) rfl
theorem wd614 : (.static yX6_copyCells : Cond) ∈ lw_ok := lm3 (List.mem_of_getElem? (i := 117) (by decide +kernel)) rfl
theorem wd615 : (.code yX6_copyCells cX6_copyCells 3 (none : Option Jvm.ClassFile.FieldType) : Cond) ∈ lw_ok := lm3 (List.mem_of_getElem? (i := 118) (by decide +kernel)) rfl
theorem wd616 : (.methodLink RL 144 yX11_on : Cond) ∈ lw_ok := lm3 (List.mem_of_getElem? (i := 119) (by decide +kernel)) rfl
theorem wd617 : (.instanceMethod yX11_on : Cond) ∈ lw_ok := lm3 (List.mem_of_getElem? (i := 120) (by decide +kernel)) rfl
theorem wd618 : (.selects RX11 yX11_on yX11_on : Cond) ∈ lw_ok := lm3 (List.mem_of_getElem? (i := 121) (by decide +kernel)) rfl
theorem wd619 : (.code yX11_on cX11_on 3 (some .int) : Cond) ∈ lw_ok := lm3 (List.mem_of_getElem? (i := 122) (by decide +kernel)) rfl
theorem wd620 : (.methodLink RL 80 yX11_friday : Cond) ∈ lw_ok := lm3 (List.mem_of_getElem? (i := 123) (by decide +kernel)) rfl
theorem wd621 : (.instanceMethod yX11_friday : Cond) ∈ lw_ok := lm3 (List.mem_of_getElem? (i := 124) (by decide +kernel)) rfl
theorem wd622 : (.selects RX11 yX11_friday yX11_friday : Cond) ∈ lw_ok := lm3 (List.mem_of_getElem? (i := 125) (by decide +kernel)) rfl
theorem wd623 : (.code yX11_friday cX11_friday 2 (some .int) : Cond) ∈ lw_ok := lm3 (List.mem_of_getElem? (i := 126) (by decide +kernel)) rfl
theorem wd624 : (.methodLink RX11 262 yX11_isAhead : Cond) ∈ lw_ok := lm3 (List.mem_of_getElem? (i := 127) (by decide +kernel)) rfl
theorem wd625 : (.static yX11_isAhead : Cond) ∈ lw_ok := lm3 (List.mem_of_getElem? (i := 128) (by decide +kernel)) rfl
theorem wd626 : (.code yX11_isAhead cX11_isAhead 1 (some .boolean) : Cond) ∈ lw_ok := lm3 (List.mem_of_getElem? (i := 129) (by decide +kernel)) rfl
theorem wd627 : (.methodLink RX11 265 yX2_look : Cond) ∈ lw_ok := lm3 (List.mem_of_getElem? (i := 130) (by decide +kernel)) rfl
theorem wd628 : (.instanceMethod yX2_look : Cond) ∈ lw_ok := lm3 (List.mem_of_getElem? (i := 131) (by decide +kernel)) rfl
theorem wd629 : (.selects RX2 yX2_look yX2_look : Cond) ∈ lw_ok := lm3 (List.mem_of_getElem? (i := 132) (by decide +kernel)) rfl
theorem wd630 : (.code yX2_look cX2_look 4 (none : Option Jvm.ClassFile.FieldType) : Cond) ∈ lw_ok := lm3 (List.mem_of_getElem? (i := 133) (by decide +kernel)) rfl
theorem wd631 : (.methodLink RX2 45 yX2_startFrom : Cond) ∈ lw_ok := lm3 (List.mem_of_getElem? (i := 134) (by decide +kernel)) rfl
theorem wd632 : (.instanceMethod yX2_startFrom : Cond) ∈ lw_ok := lm3 (List.mem_of_getElem? (i := 135) (by decide +kernel)) rfl
theorem wd633 : (.selects RX2 yX2_startFrom yX2_startFrom : Cond) ∈ lw_ok := lm3 (List.mem_of_getElem? (i := 136) (by decide +kernel)) rfl
theorem wd634 : (.code yX2_startFrom cX2_startFrom 4 (none : Option Jvm.ClassFile.FieldType) : Cond) ∈ lw_ok := lm3 (List.mem_of_getElem? (i := 137) (by decide +kernel)) rfl
theorem wd635 : (.methodLink RX2 59 yX8_clear : Cond) ∈ lw_ok := lm3 (List.mem_of_getElem? (i := 138) (by decide +kernel)) rfl
theorem wd636 : (.instanceMethod yX8_clear : Cond) ∈ lw_ok := lm3 (List.mem_of_getElem? (i := 139) (by decide +kernel)) rfl
theorem wd637 : (.selects RX8 yX8_clear yX8_clear : Cond) ∈ lw_ok := lm3 (List.mem_of_getElem? (i := 140) (by decide +kernel)) rfl
theorem wd638 : (.code yX8_clear cX8_clear 3 (none : Option Jvm.ClassFile.FieldType) : Cond) ∈ lw_ok := lm3 (List.mem_of_getElem? (i := 141) (by decide +kernel)) rfl
theorem wd639 : (.methodLink RX8 27 yX8_keyAt : Cond) ∈ lw_ok := lm3 (List.mem_of_getElem? (i := 142) (by decide +kernel)) rfl
theorem wd640 : (.instanceMethod yX8_keyAt : Cond) ∈ lw_ok := lm3 (List.mem_of_getElem? (i := 143) (by decide +kernel)) rfl
theorem wd641 : (.selects RX8 yX8_keyAt yX8_keyAt : Cond) ∈ lw_ok := lm3 (List.mem_of_getElem? (i := 144) (by decide +kernel)) rfl
theorem wd642 : (.code yX8_keyAt cX8_keyAt 2 (some .int) : Cond) ∈ lw_ok := lm3 (List.mem_of_getElem? (i := 145) (by decide +kernel)) rfl
theorem wd643 : (.methodLink RX2 65 yX8_add : Cond) ∈ lw_ok := lm3 (List.mem_of_getElem? (i := 146) (by decide +kernel)) rfl
theorem wd644 : (.instanceMethod yX8_add : Cond) ∈ lw_ok := lm3 (List.mem_of_getElem? (i := 147) (by decide +kernel)) rfl
theorem wd645 : (.selects RX8 yX8_add yX8_add : Cond) ∈ lw_ok := lm3 (List.mem_of_getElem? (i := 148) (by decide +kernel)) rfl
theorem wd646 : (.code yX8_add cX8_add 6 (none : Option Jvm.ClassFile.FieldType) : Cond) ∈ lw_ok := lm3 (List.mem_of_getElem? (i := 149) (by decide +kernel)) rfl
theorem wd647 : (.methodLink RX2 55 yX2_passHours : Cond) ∈ lw_ok := lm3 (List.mem_of_getElem? (i := 150) (by decide +kernel)) rfl
theorem wd648 : (.instanceMethod yX2_passHours : Cond) ∈ lw_ok := lm3 (List.mem_of_getElem? (i := 151) (by decide +kernel)) rfl
theorem wd649 : (.selects RX2 yX2_passHours yX2_passHours : Cond) ∈ lw_ok := lm3 (List.mem_of_getElem? (i := 152) (by decide +kernel)) rfl
theorem wd650 : (.code yX2_passHours cX2_passHours 7 (none : Option Jvm.ClassFile.FieldType) : Cond) ∈ lw_ok := lm3 (List.mem_of_getElem? (i := 153) (by decide +kernel)) rfl
theorem wd651 : (.constantLong RX2 69 (12) : Cond) ∈ lw_ok := lm3 (List.mem_of_getElem? (i := 154) (by decide +kernel)) rfl
theorem wd652 : (.methodLink RX2 74 yX8_keyAt : Cond) ∈ lw_ok := lm3 (List.mem_of_getElem? (i := 155) (by decide +kernel)) rfl
theorem wd653 : (.methodLink RX2 78 yX2_spread : Cond) ∈ lw_ok := lm3 (List.mem_of_getElem? (i := 156) (by decide +kernel)) rfl
theorem wd654 : (.instanceMethod yX2_spread : Cond) ∈ lw_ok := lm3 (List.mem_of_getElem? (i := 157) (by decide +kernel)) rfl
theorem wd655 : (.selects RX2 yX2_spread yX2_spread : Cond) ∈ lw_ok := lm3 (List.mem_of_getElem? (i := 158) (by decide +kernel)) rfl
theorem wd656 : (.code yX2_spread cX2_spread 8 (none : Option Jvm.ClassFile.FieldType) : Cond) ∈ lw_ok := lm3 (List.mem_of_getElem? (i := 159) (by decide +kernel)) rfl
theorem wd657 : (.methodLink RX2 81 yX8_deskOf : Cond) ∈ lw_ok := lm3 (List.mem_of_getElem? (i := 160) (by decide +kernel)) rfl
theorem wd658 : (.static yX8_deskOf : Cond) ∈ lw_ok := lm3 (List.mem_of_getElem? (i := 161) (by decide +kernel)) rfl
theorem wd659 : (.code yX8_deskOf cX8_deskOf 1 (some .int) : Cond) ∈ lw_ok := lm3 (List.mem_of_getElem? (i := 162) (by decide +kernel)) rfl
theorem wd660 : (.methodLink RX2 84 yX8_crossedOf : Cond) ∈ lw_ok := lm3 (List.mem_of_getElem? (i := 163) (by decide +kernel)) rfl
theorem wd661 : (.static yX8_crossedOf : Cond) ∈ lw_ok := lm3 (List.mem_of_getElem? (i := 164) (by decide +kernel)) rfl
theorem wd662 : (.code yX8_crossedOf cX8_crossedOf 1 (some .int) : Cond) ∈ lw_ok := lm3 (List.mem_of_getElem? (i := 165) (by decide +kernel)) rfl
theorem wd663 : (.methodLink RX2 87 yX9_passHour : Cond) ∈ lw_ok := lm3 (List.mem_of_getElem? (i := 166) (by decide +kernel)) rfl
theorem wd664 : (.methodLink RX2 91 yX8_partOf : Cond) ∈ lw_ok := lm3 (List.mem_of_getElem? (i := 167) (by decide +kernel)) rfl
theorem wd665 : (.instanceMethod yX8_partOf : Cond) ∈ lw_ok := lm3 (List.mem_of_getElem? (i := 168) (by decide +kernel)) rfl
theorem wd666 : (.selects RX8 yX8_partOf yX8_partOf : Cond) ∈ lw_ok := lm3 (List.mem_of_getElem? (i := 169) (by decide +kernel)) rfl
theorem wd667 : (.code yX8_partOf cX8_partOf 2 (some .long) : Cond) ∈ lw_ok := lm3 (List.mem_of_getElem? (i := 170) (by decide +kernel)) rfl
theorem wd668 : (.methodLink RX11 269 yX2_partHome : Cond) ∈ lw_ok := lm3 (List.mem_of_getElem? (i := 171) (by decide +kernel)) rfl
theorem wd669 : (.instanceMethod yX2_partHome : Cond) ∈ lw_ok := lm3 (List.mem_of_getElem? (i := 172) (by decide +kernel)) rfl
theorem wd670 : (.selects RX2 yX2_partHome yX2_partHome : Cond) ∈ lw_ok := lm3 (List.mem_of_getElem? (i := 173) (by decide +kernel)) rfl
theorem wd671 : (.code yX2_partHome cX2_partHome 1 (some .long) : Cond) ∈ lw_ok := lm3 (List.mem_of_getElem? (i := 174) (by decide +kernel)) rfl
theorem wd672 : (.methodLink RX11 276 yX11_tellFraction : Cond) ∈ lw_ok := lm3 (List.mem_of_getElem? (i := 175) (by decide +kernel)) rfl
theorem wd674 : (.instanceMethod yX11_tellFraction : Cond) ∈ lw_ok := lm3 (List.mem_of_getElem? (i := 177) (by decide +kernel)) rfl
theorem wd675 : (.code yX11_tellFraction cX11_tellFraction 8 (some .int) : Cond) ∈ lw_ok := lm3 (List.mem_of_getElem? (i := 178) (by decide +kernel)) rfl
theorem wd676 : (.methodLink RX11 416 yX11_commonDivisor : Cond) ∈ lw_ok := lm3 (List.mem_of_getElem? (i := 179) (by decide +kernel)) rfl
theorem wd677 : (.static yX11_commonDivisor : Cond) ∈ lw_ok := lm3 (List.mem_of_getElem? (i := 180) (by decide +kernel)) rfl
theorem wd678 : (.code yX11_commonDivisor cX11_commonDivisor 11 (some .long) : Cond) ∈ lw_ok := lm3 (List.mem_of_getElem? (i := 181) (by decide +kernel)) rfl
theorem wd679 : (.methodLink RL 90 yX11_odds : Cond) ∈ lw_ok := lm3 (List.mem_of_getElem? (i := 182) (by decide +kernel)) rfl
theorem wd680 : (.instanceMethod yX11_odds : Cond) ∈ lw_ok := lm3 (List.mem_of_getElem? (i := 183) (by decide +kernel)) rfl
theorem wd681 : (.selects RX11 yX11_odds yX11_odds : Cond) ∈ lw_ok := lm3 (List.mem_of_getElem? (i := 184) (by decide +kernel)) rfl
theorem wd682 : (.code yX11_odds cX11_odds 3 (some .int) : Cond) ∈ lw_ok := lm3 (List.mem_of_getElem? (i := 185) (by decide +kernel)) rfl
theorem wd683 : (.methodLink RX11 283 yX2_partAt : Cond) ∈ lw_ok := lm3 (List.mem_of_getElem? (i := 186) (by decide +kernel)) rfl
theorem wd684 : (.instanceMethod yX2_partAt : Cond) ∈ lw_ok := lm3 (List.mem_of_getElem? (i := 187) (by decide +kernel)) rfl
theorem wd685 : (.selects RX2 yX2_partAt yX2_partAt : Cond) ∈ lw_ok := lm3 (List.mem_of_getElem? (i := 188) (by decide +kernel)) rfl
theorem wd686 : (.code yX2_partAt cX2_partAt 7 (some .long) : Cond) ∈ lw_ok := lm3 (List.mem_of_getElem? (i := 189) (by decide +kernel)) rfl
theorem wd687 : (.methodLink RL 93 yX11_ask : Cond) ∈ lw_ok := lm3 (List.mem_of_getElem? (i := 190) (by decide +kernel)) rfl
theorem wd688 : (.instanceMethod yX11_ask : Cond) ∈ lw_ok := lm3 (List.mem_of_getElem? (i := 191) (by decide +kernel)) rfl
theorem wd689 : (.selects RX11 yX11_ask yX11_ask : Cond) ∈ lw_ok := lm3 (List.mem_of_getElem? (i := 192) (by decide +kernel)) rfl
theorem wd690 : (.code yX11_ask cX11_ask 9 (some .int) : Cond) ∈ lw_ok := lm3 (List.mem_of_getElem? (i := 193) (by decide +kernel)) rfl
theorem wd691 : (.methodLink RX11 287 yX11_likeliestBut : Cond) ∈ lw_ok := lm3 (List.mem_of_getElem? (i := 194) (by decide +kernel)) rfl
theorem wd693 : (.instanceMethod yX11_likeliestBut : Cond) ∈ lw_ok := lm3 (List.mem_of_getElem? (i := 196) (by decide +kernel)) rfl
theorem wd694 : (.code yX11_likeliestBut cX11_likeliestBut 8 (some .int) : Cond) ∈ lw_ok := lm3 (List.mem_of_getElem? (i := 197) (by decide +kernel)) rfl
theorem wd695 : (.constantLong RX11 295 (-1) : Cond) ∈ lw_ok := lm3 (List.mem_of_getElem? (i := 198) (by decide +kernel)) rfl
theorem wd696 : (.methodLink RX11 290 yJ6_bitCount_0f7a4 : Cond) ∈ lw_ok := lm3 (List.mem_of_getElem? (i := 199) (by decide +kernel)) rfl
theorem wd697 : (.static yJ6_bitCount_0f7a4 : Cond) ∈ lw_ok := lm3 (List.mem_of_getElem? (i := 200) (by decide +kernel)) rfl
theorem wd698 : (.code yJ6_bitCount_0f7a4 cJ6_bitCount_0f7a4 1 (some .int) : Cond) ∈ lw_ok := lm3 (List.mem_of_getElem? (i := 201) (by decide +kernel)) rfl
theorem wd699 : (.constant RJ6 265 (1431655765) : Cond) ∈ lw_ok := lm3 (List.mem_of_getElem? (i := 202) (by decide +kernel)) rfl
theorem wd700 : (.constant RJ6 266 (858993459) : Cond) ∈ lw_ok := lm3 (List.mem_of_getElem? (i := 203) (by decide +kernel)) rfl
theorem wd701 : (.constant RJ6 267 (252645135) : Cond) ∈ lw_ok := lm3 (List.mem_of_getElem? (i := 204) (by decide +kernel)) rfl
theorem wd702 : (.methodLink RL 141 yX11_rule : Cond) ∈ lw_ok := lm3 (List.mem_of_getElem? (i := 205) (by decide +kernel)) rfl
theorem wd703 : (.instanceMethod yX11_rule : Cond) ∈ lw_ok := lm3 (List.mem_of_getElem? (i := 206) (by decide +kernel)) rfl
theorem wd704 : (.selects RX11 yX11_rule yX11_rule : Cond) ∈ lw_ok := lm3 (List.mem_of_getElem? (i := 207) (by decide +kernel)) rfl
theorem wd705 : (.code yX11_rule cX11_rule 7 (some .int) : Cond) ∈ lw_ok := lm3 (List.mem_of_getElem? (i := 208) (by decide +kernel)) rfl
theorem wd706 : (.methodLink RX11 297 yX2_lookAnew : Cond) ∈ lw_ok := lm3 (List.mem_of_getElem? (i := 209) (by decide +kernel)) rfl
theorem wd707 : (.instanceMethod yX2_lookAnew : Cond) ∈ lw_ok := lm3 (List.mem_of_getElem? (i := 210) (by decide +kernel)) rfl
theorem wd708 : (.selects RX2 yX2_lookAnew yX2_lookAnew : Cond) ∈ lw_ok := lm3 (List.mem_of_getElem? (i := 211) (by decide +kernel)) rfl
theorem wd709 : (.code yX2_lookAnew cX2_lookAnew 5 (none : Option Jvm.ClassFile.FieldType) : Cond) ∈ lw_ok := lm3 (List.mem_of_getElem? (i := 212) (by decide +kernel)) rfl
theorem wd710 : (.methodLink RL 102 yX11_order : Cond) ∈ lw_ok := lm3 (List.mem_of_getElem? (i := 213) (by decide +kernel)) rfl
theorem wd711 : (.instanceMethod yX11_order : Cond) ∈ lw_ok := lm3 (List.mem_of_getElem? (i := 214) (by decide +kernel)) rfl
theorem wd712 : (.selects RX11 yX11_order yX11_order : Cond) ∈ lw_ok := lm3 (List.mem_of_getElem? (i := 215) (by decide +kernel)) rfl
theorem wd713 : (.code yX11_order cX11_order 3 (some .int) : Cond) ∈ lw_ok := lm3 (List.mem_of_getElem? (i := 216) (by decide +kernel)) rfl
theorem wd714 : (.methodLink RX11 301 yX11_readOrder : Cond) ∈ lw_ok := lm3 (List.mem_of_getElem? (i := 217) (by decide +kernel)) rfl
theorem wd716 : (.instanceMethod yX11_readOrder : Cond) ∈ lw_ok := lm3 (List.mem_of_getElem? (i := 219) (by decide +kernel)) rfl
theorem wd717 : (.code yX11_readOrder cX11_readOrder 5 (some .int) : Cond) ∈ lw_ok := lm3 (List.mem_of_getElem? (i := 220) (by decide +kernel)) rfl
theorem wd718 : (.methodLink RX11 453 yX3_clear : Cond) ∈ lw_ok := lm3 (List.mem_of_getElem? (i := 221) (by decide +kernel)) rfl
theorem wd719 : (.instanceMethod yX3_clear : Cond) ∈ lw_ok := lm3 (List.mem_of_getElem? (i := 222) (by decide +kernel)) rfl
theorem wd720 : (.selects RX3 yX3_clear yX3_clear : Cond) ∈ lw_ok := lm3 (List.mem_of_getElem? (i := 223) (by decide +kernel)) rfl
theorem wd721 : (.code yX3_clear cX3_clear 1 (none : Option Jvm.ClassFile.FieldType) : Cond) ∈ lw_ok := lm3 (List.mem_of_getElem? (i := 224) (by decide +kernel)) rfl
theorem wd722 : (.methodLink RX11 157 yX7_sizeOf : Cond) ∈ lw_ok := lm3 (List.mem_of_getElem? (i := 225) (by decide +kernel)) rfl
theorem wd723 : (.methodLink RX11 326 yX6_isCrossed : Cond) ∈ lw_ok := lm3 (List.mem_of_getElem? (i := 226) (by decide +kernel)) rfl
theorem wd724 : (.methodLink RX11 329 yX3_holds : Cond) ∈ lw_ok := lm3 (List.mem_of_getElem? (i := 227) (by decide +kernel)) rfl
theorem wd725 : (.instanceMethod yX3_holds : Cond) ∈ lw_ok := lm3 (List.mem_of_getElem? (i := 228) (by decide +kernel)) rfl
theorem wd726 : (.selects RX3 yX3_holds yX3_holds : Cond) ∈ lw_ok := lm3 (List.mem_of_getElem? (i := 229) (by decide +kernel)) rfl
theorem wd727 : (.code yX3_holds cX3_holds 2 (some .boolean) : Cond) ∈ lw_ok := lm3 (List.mem_of_getElem? (i := 230) (by decide +kernel)) rfl
theorem wd728 : (.methodLink RX11 456 yX3_add : Cond) ∈ lw_ok := lm3 (List.mem_of_getElem? (i := 231) (by decide +kernel)) rfl
theorem wd729 : (.instanceMethod yX3_add : Cond) ∈ lw_ok := lm3 (List.mem_of_getElem? (i := 232) (by decide +kernel)) rfl
theorem wd730 : (.selects RX3 yX3_add yX3_add : Cond) ∈ lw_ok := lm3 (List.mem_of_getElem? (i := 233) (by decide +kernel)) rfl
theorem wd731 : (.code yX3_add cX3_add 2 (none : Option Jvm.ClassFile.FieldType) : Cond) ∈ lw_ok := lm3 (List.mem_of_getElem? (i := 234) (by decide +kernel)) rfl
theorem wd732 : (.methodLink RX11 304 yX11_bringIn : Cond) ∈ lw_ok := lm3 (List.mem_of_getElem? (i := 235) (by decide +kernel)) rfl
theorem wd734 : (.instanceMethod yX11_bringIn : Cond) ∈ lw_ok := lm3 (List.mem_of_getElem? (i := 237) (by decide +kernel)) rfl
theorem wd735 : (.code yX11_bringIn cX11_bringIn 3 (some .int) : Cond) ∈ lw_ok := lm3 (List.mem_of_getElem? (i := 238) (by decide +kernel)) rfl
theorem wd736 : (.methodLink RX11 457 yX5_copyFrom : Cond) ∈ lw_ok := lm3 (List.mem_of_getElem? (i := 239) (by decide +kernel)) rfl
theorem wd737 : (.instanceMethod yX5_copyFrom : Cond) ∈ lw_ok := lm4 (List.mem_of_getElem? (i := 0) (by decide +kernel)) rfl
theorem wd738 : (.selects RX5 yX5_copyFrom yX5_copyFrom : Cond) ∈ lw_ok := lm4 (List.mem_of_getElem? (i := 1) (by decide +kernel)) rfl
theorem wd739 : (.code yX5_copyFrom cX5_copyFrom 2 (none : Option Jvm.ClassFile.FieldType) : Cond) ∈ lw_ok := lm4 (List.mem_of_getElem? (i := 2) (by decide +kernel)) rfl
theorem wd740 : (.methodLink RX11 460 yX3_deskAt : Cond) ∈ lw_ok := lm4 (List.mem_of_getElem? (i := 3) (by decide +kernel)) rfl
theorem wd741 : (.instanceMethod yX3_deskAt : Cond) ∈ lw_ok := lm4 (List.mem_of_getElem? (i := 4) (by decide +kernel)) rfl
theorem wd742 : (.selects RX3 yX3_deskAt yX3_deskAt : Cond) ∈ lw_ok := lm4 (List.mem_of_getElem? (i := 5) (by decide +kernel)) rfl
theorem wd743 : (.code yX3_deskAt cX3_deskAt 2 (some .int) : Cond) ∈ lw_ok := lm4 (List.mem_of_getElem? (i := 6) (by decide +kernel)) rfl
theorem wd744 : (.methodLink RX11 335 yX5_take : Cond) ∈ lw_ok := lm4 (List.mem_of_getElem? (i := 7) (by decide +kernel)) rfl
theorem wd745 : (.methodLink RL 99 yX11_most : Cond) ∈ lw_ok := lm4 (List.mem_of_getElem? (i := 8) (by decide +kernel)) rfl
theorem wd746 : (.instanceMethod yX11_most : Cond) ∈ lw_ok := lm4 (List.mem_of_getElem? (i := 9) (by decide +kernel)) rfl
theorem wd747 : (.selects RX11 yX11_most yX11_most : Cond) ∈ lw_ok := lm4 (List.mem_of_getElem? (i := 10) (by decide +kernel)) rfl
theorem wd748 : (.code yX11_most cX11_most 5 (some .int) : Cond) ∈ lw_ok := lm4 (List.mem_of_getElem? (i := 11) (by decide +kernel)) rfl
theorem wd749 : (.methodLink RX11 307 yX11_isSetOfDesks : Cond) ∈ lw_ok := lm4 (List.mem_of_getElem? (i := 12) (by decide +kernel)) rfl
theorem wd751 : (.instanceMethod yX11_isSetOfDesks : Cond) ∈ lw_ok := lm4 (List.mem_of_getElem? (i := 14) (by decide +kernel)) rfl
theorem wd752 : (.code yX11_isSetOfDesks cX11_isSetOfDesks 2 (some .boolean) : Cond) ∈ lw_ok := lm4 (List.mem_of_getElem? (i := 15) (by decide +kernel)) rfl
theorem wd753 : (.methodLink RX11 420 yX1_all : Cond) ∈ lw_ok := lm4 (List.mem_of_getElem? (i := 16) (by decide +kernel)) rfl
theorem wd754 : (.methodLink RX11 310 yX11_tryAllOrders : Cond) ∈ lw_ok := lm4 (List.mem_of_getElem? (i := 17) (by decide +kernel)) rfl
theorem wd756 : (.instanceMethod yX11_tryAllOrders : Cond) ∈ lw_ok := lm4 (List.mem_of_getElem? (i := 19) (by decide +kernel)) rfl
theorem wd757 : (.code yX11_tryAllOrders cX11_tryAllOrders 3 (none : Option Jvm.ClassFile.FieldType) : Cond) ∈ lw_ok := lm4 (List.mem_of_getElem? (i := 20) (by decide +kernel)) rfl
theorem wd758 : (.methodLink RX11 463 yX3_judgeFirst : Cond) ∈ lw_ok := lm4 (List.mem_of_getElem? (i := 21) (by decide +kernel)) rfl
theorem wd759 : (.instanceMethod yX3_judgeFirst : Cond) ∈ lw_ok := lm4 (List.mem_of_getElem? (i := 22) (by decide +kernel)) rfl
theorem wd760 : (.selects RX3 yX3_judgeFirst yX3_judgeFirst : Cond) ∈ lw_ok := lm4 (List.mem_of_getElem? (i := 23) (by decide +kernel)) rfl
theorem wd761 : (.code yX3_judgeFirst cX3_judgeFirst 2 (none : Option Jvm.ClassFile.FieldType) : Cond) ∈ lw_ok := lm4 (List.mem_of_getElem? (i := 24) (by decide +kernel)) rfl
theorem wd762 : (.methodLink RX3 31 yX3_markBest : Cond) ∈ lw_ok := lm4 (List.mem_of_getElem? (i := 25) (by decide +kernel)) rfl
theorem wd763 : (.instanceMethod yX3_markBest : Cond) ∈ lw_ok := lm4 (List.mem_of_getElem? (i := 26) (by decide +kernel)) rfl
theorem wd764 : (.selects RX3 yX3_markBest yX3_markBest : Cond) ∈ lw_ok := lm4 (List.mem_of_getElem? (i := 27) (by decide +kernel)) rfl
theorem wd765 : (.code yX3_markBest cX3_markBest 2 (none : Option Jvm.ClassFile.FieldType) : Cond) ∈ lw_ok := lm4 (List.mem_of_getElem? (i := 28) (by decide +kernel)) rfl
theorem wd766 : (.methodLink RX11 466 yX3_turn : Cond) ∈ lw_ok := lm4 (List.mem_of_getElem? (i := 29) (by decide +kernel)) rfl
theorem wd767 : (.instanceMethod yX3_turn : Cond) ∈ lw_ok := lm4 (List.mem_of_getElem? (i := 30) (by decide +kernel)) rfl
theorem wd768 : (.selects RX3 yX3_turn yX3_turn : Cond) ∈ lw_ok := lm4 (List.mem_of_getElem? (i := 31) (by decide +kernel)) rfl
theorem wd769 : (.code yX3_turn cX3_turn 5 (some .boolean) : Cond) ∈ lw_ok := lm4 (List.mem_of_getElem? (i := 32) (by decide +kernel)) rfl
theorem wd770 : (.methodLink RX3 40 yX3_deskAt : Cond) ∈ lw_ok := lm4 (List.mem_of_getElem? (i := 33) (by decide +kernel)) rfl
theorem wd771 : (.methodLink RX3 44 yX3_swap : Cond) ∈ lw_ok := lm4 (List.mem_of_getElem? (i := 34) (by decide +kernel)) rfl
theorem wd772 : (.instanceMethod yX3_swap : Cond) ∈ lw_ok := lm4 (List.mem_of_getElem? (i := 35) (by decide +kernel)) rfl
theorem wd773 : (.selects RX3 yX3_swap yX3_swap : Cond) ∈ lw_ok := lm4 (List.mem_of_getElem? (i := 36) (by decide +kernel)) rfl
theorem wd774 : (.code yX3_swap cX3_swap 4 (none : Option Jvm.ClassFile.FieldType) : Cond) ∈ lw_ok := lm4 (List.mem_of_getElem? (i := 37) (by decide +kernel)) rfl
theorem wd775 : (.methodLink RX11 470 yX3_judge : Cond) ∈ lw_ok := lm4 (List.mem_of_getElem? (i := 38) (by decide +kernel)) rfl
theorem wd776 : (.instanceMethod yX3_judge : Cond) ∈ lw_ok := lm4 (List.mem_of_getElem? (i := 39) (by decide +kernel)) rfl
theorem wd777 : (.selects RX3 yX3_judge yX3_judge : Cond) ∈ lw_ok := lm4 (List.mem_of_getElem? (i := 40) (by decide +kernel)) rfl
theorem wd778 : (.code yX3_judge cX3_judge 2 (none : Option Jvm.ClassFile.FieldType) : Cond) ∈ lw_ok := lm4 (List.mem_of_getElem? (i := 41) (by decide +kernel)) rfl
theorem wd779 : (.methodLink RX3 34 Lib.Math.min.name : Cond) ∈ lw_ok := lm4 (List.mem_of_getElem? (i := 42) (by decide +kernel)) rfl
theorem wd780 : (.static Lib.Math.min.name : Cond) ∈ lw_ok := lm4 (List.mem_of_getElem? (i := 43) (by decide +kernel)) rfl
theorem wd781 : (.code Lib.Math.min.name Lib.Math.min.code 2 (some .int) : Cond) ∈ lw_ok := lm4 (List.mem_of_getElem? (i := 44) (by decide +kernel)) rfl
theorem wd782 : (.methodLink RX11 316 yX3_bestAt : Cond) ∈ lw_ok := lm4 (List.mem_of_getElem? (i := 45) (by decide +kernel)) rfl
theorem wd783 : (.instanceMethod yX3_bestAt : Cond) ∈ lw_ok := lm4 (List.mem_of_getElem? (i := 46) (by decide +kernel)) rfl
theorem wd784 : (.selects RX3 yX3_bestAt yX3_bestAt : Cond) ∈ lw_ok := lm4 (List.mem_of_getElem? (i := 47) (by decide +kernel)) rfl
theorem wd785 : (.code yX3_bestAt cX3_bestAt 2 (some .int) : Cond) ∈ lw_ok := lm4 (List.mem_of_getElem? (i := 48) (by decide +kernel)) rfl
theorem wd786 : (.methodLink RL 96 yX11_spans : Cond) ∈ lw_ok := lm4 (List.mem_of_getElem? (i := 49) (by decide +kernel)) rfl
theorem wd787 : (.instanceMethod yX11_spans : Cond) ∈ lw_ok := lm4 (List.mem_of_getElem? (i := 50) (by decide +kernel)) rfl
theorem wd788 : (.selects RX11 yX11_spans yX11_spans : Cond) ∈ lw_ok := lm4 (List.mem_of_getElem? (i := 51) (by decide +kernel)) rfl
theorem wd789 : (.code yX11_spans cX11_spans 3 (some .int) : Cond) ∈ lw_ok := lm4 (List.mem_of_getElem? (i := 52) (by decide +kernel)) rfl
theorem wd790 : (.methodLink RL 105 yX11_best : Cond) ∈ lw_ok := lm4 (List.mem_of_getElem? (i := 53) (by decide +kernel)) rfl
theorem wd791 : (.instanceMethod yX11_best : Cond) ∈ lw_ok := lm4 (List.mem_of_getElem? (i := 54) (by decide +kernel)) rfl
theorem wd792 : (.selects RX11 yX11_best yX11_best : Cond) ∈ lw_ok := lm4 (List.mem_of_getElem? (i := 55) (by decide +kernel)) rfl
theorem wd793 : (.code yX11_best cX11_best 7 (some .int) : Cond) ∈ lw_ok := lm4 (List.mem_of_getElem? (i := 56) (by decide +kernel)) rfl
theorem wd794 : (.methodLink RL 108 yX11_fill : Cond) ∈ lw_ok := lm4 (List.mem_of_getElem? (i := 57) (by decide +kernel)) rfl
theorem wd795 : (.instanceMethod yX11_fill : Cond) ∈ lw_ok := lm4 (List.mem_of_getElem? (i := 58) (by decide +kernel)) rfl
theorem wd796 : (.selects RX11 yX11_fill yX11_fill : Cond) ∈ lw_ok := lm4 (List.mem_of_getElem? (i := 59) (by decide +kernel)) rfl
theorem wd797 : (.code yX11_fill cX11_fill 3 (some .int) : Cond) ∈ lw_ok := lm4 (List.mem_of_getElem? (i := 60) (by decide +kernel)) rfl
theorem wd798 : (.methodLink RX11 344 Lib.Math.max.name : Cond) ∈ lw_ok := lm4 (List.mem_of_getElem? (i := 61) (by decide +kernel)) rfl
theorem wd799 : (.methodLink RL 111 yX11_nothing : Cond) ∈ lw_ok := lm4 (List.mem_of_getElem? (i := 62) (by decide +kernel)) rfl
theorem wd800 : (.instanceMethod yX11_nothing : Cond) ∈ lw_ok := lm4 (List.mem_of_getElem? (i := 63) (by decide +kernel)) rfl
theorem wd801 : (.selects RX11 yX11_nothing yX11_nothing : Cond) ∈ lw_ok := lm4 (List.mem_of_getElem? (i := 64) (by decide +kernel)) rfl
theorem wd802 : (.code yX11_nothing cX11_nothing 5 (some .int) : Cond) ∈ lw_ok := lm4 (List.mem_of_getElem? (i := 65) (by decide +kernel)) rfl
theorem wd803 : (.methodLink RX11 349 yX11_isWay : Cond) ∈ lw_ok := lm4 (List.mem_of_getElem? (i := 66) (by decide +kernel)) rfl
theorem wd805 : (.instanceMethod yX11_isWay : Cond) ∈ lw_ok := lm4 (List.mem_of_getElem? (i := 68) (by decide +kernel)) rfl
theorem wd806 : (.code yX11_isWay cX11_isWay 5 (some .boolean) : Cond) ∈ lw_ok := lm4 (List.mem_of_getElem? (i := 69) (by decide +kernel)) rfl
theorem wd807 : (.methodLink RX11 174 yX1_fact : Cond) ∈ lw_ok := lm4 (List.mem_of_getElem? (i := 70) (by decide +kernel)) rfl
theorem wd808 : (.methodLink RL 114 yX11_gaveNone : Cond) ∈ lw_ok := lm4 (List.mem_of_getElem? (i := 71) (by decide +kernel)) rfl
theorem wd809 : (.instanceMethod yX11_gaveNone : Cond) ∈ lw_ok := lm4 (List.mem_of_getElem? (i := 72) (by decide +kernel)) rfl
theorem wd810 : (.selects RX11 yX11_gaveNone yX11_gaveNone : Cond) ∈ lw_ok := lm4 (List.mem_of_getElem? (i := 73) (by decide +kernel)) rfl
theorem wd811 : (.code yX11_gaveNone cX11_gaveNone 6 (some .int) : Cond) ∈ lw_ok := lm4 (List.mem_of_getElem? (i := 74) (by decide +kernel)) rfl
theorem wd812 : (.methodLink RL 123 yX11_fits : Cond) ∈ lw_ok := lm4 (List.mem_of_getElem? (i := 75) (by decide +kernel)) rfl
theorem wd813 : (.instanceMethod yX11_fits : Cond) ∈ lw_ok := lm4 (List.mem_of_getElem? (i := 76) (by decide +kernel)) rfl
theorem wd814 : (.selects RX11 yX11_fits yX11_fits : Cond) ∈ lw_ok := lm4 (List.mem_of_getElem? (i := 77) (by decide +kernel)) rfl
theorem wd815 : (.code yX11_fits cX11_fits 9 (some .int) : Cond) ∈ lw_ok := lm4 (List.mem_of_getElem? (i := 78) (by decide +kernel)) rfl
theorem wd816 : (.methodLink RX11 352 yX11_isCard : Cond) ∈ lw_ok := lm4 (List.mem_of_getElem? (i := 79) (by decide +kernel)) rfl
theorem wd817 : (.static yX11_isCard : Cond) ∈ lw_ok := lm4 (List.mem_of_getElem? (i := 80) (by decide +kernel)) rfl
theorem wd818 : (.code yX11_isCard cX11_isCard 2 (some .boolean) : Cond) ∈ lw_ok := lm4 (List.mem_of_getElem? (i := 81) (by decide +kernel)) rfl
theorem wd819 : (.methodLink RX11 338 yX7_allWithin : Cond) ∈ lw_ok := lm4 (List.mem_of_getElem? (i := 82) (by decide +kernel)) rfl
theorem wd820 : (.instanceMethod yX7_allWithin : Cond) ∈ lw_ok := lm4 (List.mem_of_getElem? (i := 83) (by decide +kernel)) rfl
theorem wd821 : (.selects RX7 yX7_allWithin yX7_allWithin : Cond) ∈ lw_ok := lm4 (List.mem_of_getElem? (i := 84) (by decide +kernel)) rfl
theorem wd822 : (.code yX7_allWithin cX7_allWithin 5 (some .boolean) : Cond) ∈ lw_ok := lm4 (List.mem_of_getElem? (i := 85) (by decide +kernel)) rfl
theorem wd823 : (.methodLink RX7 40 yX7_cell : Cond) ∈ lw_ok := lm4 (List.mem_of_getElem? (i := 86) (by decide +kernel)) rfl
theorem wd824 : (.methodLink RX11 355 yX4_withName : Cond) ∈ lw_ok := lm4 (List.mem_of_getElem? (i := 87) (by decide +kernel)) rfl
theorem wd825 : (.instanceMethod yX4_withName : Cond) ∈ lw_ok := lm4 (List.mem_of_getElem? (i := 88) (by decide +kernel)) rfl
theorem wd826 : (.selects RX4 yX4_withName yX4_withName : Cond) ∈ lw_ok := lm4 (List.mem_of_getElem? (i := 89) (by decide +kernel)) rfl
theorem wd827 : (.code yX4_withName cX4_withName 5 (some .int) : Cond) ∈ lw_ok := lm4 (List.mem_of_getElem? (i := 90) (by decide +kernel)) rfl
theorem wd828 : (.constant RX4 15 (64000) : Cond) ∈ lw_ok := lm4 (List.mem_of_getElem? (i := 91) (by decide +kernel)) rfl
theorem wd829 : (.methodLink RX4 16 yX4_linesOf : Cond) ∈ lw_ok := lm4 (List.mem_of_getElem? (i := 92) (by decide +kernel)) rfl
theorem wd830 : (.instanceMethod yX4_linesOf : Cond) ∈ lw_ok := lm4 (List.mem_of_getElem? (i := 93) (by decide +kernel)) rfl
theorem wd831 : (.selects RX4 yX4_linesOf yX4_linesOf : Cond) ∈ lw_ok := lm4 (List.mem_of_getElem? (i := 94) (by decide +kernel)) rfl
theorem wd832 : (.code yX4_linesOf cX4_linesOf 2 (some .int) : Cond) ∈ lw_ok := lm4 (List.mem_of_getElem? (i := 95) (by decide +kernel)) rfl
theorem wd833 : (.methodLink RX11 359 yX4_linesOf : Cond) ∈ lw_ok := lm4 (List.mem_of_getElem? (i := 96) (by decide +kernel)) rfl
theorem wd834 : (.methodLink RL 126 yX11_room : Cond) ∈ lw_ok := lm4 (List.mem_of_getElem? (i := 97) (by decide +kernel)) rfl
theorem wd835 : (.instanceMethod yX11_room : Cond) ∈ lw_ok := lm4 (List.mem_of_getElem? (i := 98) (by decide +kernel)) rfl
theorem wd836 : (.selects RX11 yX11_room yX11_room : Cond) ∈ lw_ok := lm4 (List.mem_of_getElem? (i := 99) (by decide +kernel)) rfl
theorem wd837 : (.code yX11_room cX11_room 6 (some .int) : Cond) ∈ lw_ok := lm4 (List.mem_of_getElem? (i := 100) (by decide +kernel)) rfl
theorem wd838 : (.methodLink RX11 362 yX4_fullestSet : Cond) ∈ lw_ok := lm4 (List.mem_of_getElem? (i := 101) (by decide +kernel)) rfl
theorem wd839 : (.instanceMethod yX4_fullestSet : Cond) ∈ lw_ok := lm4 (List.mem_of_getElem? (i := 102) (by decide +kernel)) rfl
theorem wd840 : (.selects RX4 yX4_fullestSet yX4_fullestSet : Cond) ∈ lw_ok := lm4 (List.mem_of_getElem? (i := 103) (by decide +kernel)) rfl
theorem wd841 : (.code yX4_fullestSet cX4_fullestSet 8 (some .int) : Cond) ∈ lw_ok := lm4 (List.mem_of_getElem? (i := 104) (by decide +kernel)) rfl
theorem wd842 : (.methodLink RX4 20 yX7_sizeOf : Cond) ∈ lw_ok := lm4 (List.mem_of_getElem? (i := 105) (by decide +kernel)) rfl
theorem wd843 : (.methodLink RX4 25 Lib.Math.min.name : Cond) ∈ lw_ok := lm4 (List.mem_of_getElem? (i := 106) (by decide +kernel)) rfl
theorem wd844 : (.methodLink RX4 31 yX4_layLeast : Cond) ∈ lw_ok := lm4 (List.mem_of_getElem? (i := 107) (by decide +kernel)) rfl
theorem wd845 : (.instanceMethod yX4_layLeast : Cond) ∈ lw_ok := lm4 (List.mem_of_getElem? (i := 108) (by decide +kernel)) rfl
theorem wd846 : (.selects RX4 yX4_layLeast yX4_layLeast : Cond) ∈ lw_ok := lm4 (List.mem_of_getElem? (i := 109) (by decide +kernel)) rfl
theorem wd847 : (.code yX4_layLeast cX4_layLeast 7 (some .int) : Cond) ∈ lw_ok := lm4 (List.mem_of_getElem? (i := 110) (by decide +kernel)) rfl
theorem wd848 : (.methodLink RX4 40 yX4_leastOf : Cond) ∈ lw_ok := lm4 (List.mem_of_getElem? (i := 111) (by decide +kernel)) rfl
theorem wd849 : (.instanceMethod yX4_leastOf : Cond) ∈ lw_ok := lm4 (List.mem_of_getElem? (i := 112) (by decide +kernel)) rfl
theorem wd850 : (.selects RX4 yX4_leastOf yX4_leastOf : Cond) ∈ lw_ok := lm4 (List.mem_of_getElem? (i := 113) (by decide +kernel)) rfl
theorem wd851 : (.code yX4_leastOf cX4_leastOf 2 (some .int) : Cond) ∈ lw_ok := lm4 (List.mem_of_getElem? (i := 114) (by decide +kernel)) rfl
theorem wd852 : (.methodLink RX4 43 yX7_cell : Cond) ∈ lw_ok := lm4 (List.mem_of_getElem? (i := 115) (by decide +kernel)) rfl
theorem wd853 : (.methodLink RX4 46 yX4_withName : Cond) ∈ lw_ok := lm4 (List.mem_of_getElem? (i := 116) (by decide +kernel)) rfl
theorem wd854 : (.methodLink RX4 35 yJ6_bitCount_0f7a4 : Cond) ∈ lw_ok := lm4 (List.mem_of_getElem? (i := 117) (by decide +kernel)) rfl
theorem wd855 : (.methodLink RL 132 yX11_year : Cond) ∈ lw_ok := lm4 (List.mem_of_getElem? (i := 118) (by decide +kernel)) rfl
theorem wd856 : (.instanceMethod yX11_year : Cond) ∈ lw_ok := lm4 (List.mem_of_getElem? (i := 119) (by decide +kernel)) rfl
theorem wd857 : (.selects RX11 yX11_year yX11_year : Cond) ∈ lw_ok := lm4 (List.mem_of_getElem? (i := 120) (by decide +kernel)) rfl
theorem wd858 : (.code yX11_year cX11_year 2 (some .int) : Cond) ∈ lw_ok := lm4 (List.mem_of_getElem? (i := 121) (by decide +kernel)) rfl
theorem wd859 : (.methodLink RX11 369 yX5_copyTermsFrom : Cond) ∈ lw_ok := lm4 (List.mem_of_getElem? (i := 122) (by decide +kernel)) rfl
theorem wd860 : (.methodLink RX11 372 yX10_add : Cond) ∈ lw_ok := lm4 (List.mem_of_getElem? (i := 123) (by decide +kernel)) rfl
theorem wd861 : (.instanceMethod yX10_add : Cond) ∈ lw_ok := lm4 (List.mem_of_getElem? (i := 124) (by decide +kernel)) rfl
theorem wd862 : (.selects RX10 yX10_add yX10_add : Cond) ∈ lw_ok := lm4 (List.mem_of_getElem? (i := 125) (by decide +kernel)) rfl
theorem wd863 : (.code yX10_add cX10_add 6 (some .int) : Cond) ∈ lw_ok := lm4 (List.mem_of_getElem? (i := 126) (by decide +kernel)) rfl
theorem wd864 : (.methodLink RX10 25 yX10_setCell : Cond) ∈ lw_ok := lm4 (List.mem_of_getElem? (i := 127) (by decide +kernel)) rfl
theorem wd865 : (.static yX10_setCell : Cond) ∈ lw_ok := lm4 (List.mem_of_getElem? (i := 128) (by decide +kernel)) rfl
theorem wd866 : (.code yX10_setCell cX10_setCell 3 (none : Option Jvm.ClassFile.FieldType) : Cond) ∈ lw_ok := lm4 (List.mem_of_getElem? (i := 129) (by decide +kernel)) rfl
theorem wd867 : (.methodLink RX10 29 yX10_celebrate : Cond) ∈ lw_ok := lm4 (List.mem_of_getElem? (i := 130) (by decide +kernel)) rfl
theorem wd868 : (.instanceMethod yX10_celebrate : Cond) ∈ lw_ok := lm4 (List.mem_of_getElem? (i := 131) (by decide +kernel)) rfl
theorem wd869 : (.selects RX10 yX10_celebrate yX10_celebrate : Cond) ∈ lw_ok := lm4 (List.mem_of_getElem? (i := 132) (by decide +kernel)) rfl
theorem wd870 : (.code yX10_celebrate cX10_celebrate 8 (some .int) : Cond) ∈ lw_ok := lm4 (List.mem_of_getElem? (i := 133) (by decide +kernel)) rfl
theorem wd871 : (.methodLink RX10 33 yX5_clear : Cond) ∈ lw_ok := lm4 (List.mem_of_getElem? (i := 134) (by decide +kernel)) rfl
theorem wd872 : (.methodLink RX10 41 yX5_gives : Cond) ∈ lw_ok := lm4 (List.mem_of_getElem? (i := 135) (by decide +kernel)) rfl
theorem wd873 : (.methodLink RX10 45 yX5_take : Cond) ∈ lw_ok := lm4 (List.mem_of_getElem? (i := 136) (by decide +kernel)) rfl
theorem wd874 : (.methodLink RX10 49 yX10_cell : Cond) ∈ lw_ok := lm4 (List.mem_of_getElem? (i := 137) (by decide +kernel)) rfl
theorem wd875 : (.static yX10_cell : Cond) ∈ lw_ok := lm4 (List.mem_of_getElem? (i := 138) (by decide +kernel)) rfl
theorem wd876 : (.code yX10_cell cX10_cell 2 (some .int) : Cond) ∈ lw_ok := lm4 (List.mem_of_getElem? (i := 139) (by decide +kernel)) rfl
theorem wd877 : (.methodLink RL 129 yX11_balance : Cond) ∈ lw_ok := lm4 (List.mem_of_getElem? (i := 140) (by decide +kernel)) rfl
theorem wd878 : (.instanceMethod yX11_balance : Cond) ∈ lw_ok := lm4 (List.mem_of_getElem? (i := 141) (by decide +kernel)) rfl
theorem wd879 : (.selects RX11 yX11_balance yX11_balance : Cond) ∈ lw_ok := lm4 (List.mem_of_getElem? (i := 142) (by decide +kernel)) rfl
theorem wd880 : (.code yX11_balance cX11_balance 2 (some .int) : Cond) ∈ lw_ok := lm4 (List.mem_of_getElem? (i := 143) (by decide +kernel)) rfl
theorem wd881 : (.methodLink RX11 375 yX10_balanceOf : Cond) ∈ lw_ok := lm4 (List.mem_of_getElem? (i := 144) (by decide +kernel)) rfl
theorem wd882 : (.instanceMethod yX10_balanceOf : Cond) ∈ lw_ok := lm4 (List.mem_of_getElem? (i := 145) (by decide +kernel)) rfl
theorem wd883 : (.selects RX10 yX10_balanceOf yX10_balanceOf : Cond) ∈ lw_ok := lm4 (List.mem_of_getElem? (i := 146) (by decide +kernel)) rfl
theorem wd884 : (.code yX10_balanceOf cX10_balanceOf 4 (some .int) : Cond) ∈ lw_ok := lm4 (List.mem_of_getElem? (i := 147) (by decide +kernel)) rfl
theorem wd885 : (.methodLink RL 135 yX11_forget : Cond) ∈ lw_ok := lm4 (List.mem_of_getElem? (i := 148) (by decide +kernel)) rfl
theorem wd886 : (.instanceMethod yX11_forget : Cond) ∈ lw_ok := lm4 (List.mem_of_getElem? (i := 149) (by decide +kernel)) rfl
theorem wd887 : (.selects RX11 yX11_forget yX11_forget : Cond) ∈ lw_ok := lm4 (List.mem_of_getElem? (i := 150) (by decide +kernel)) rfl
theorem wd888 : (.code yX11_forget cX11_forget 3 (some .int) : Cond) ∈ lw_ok := lm4 (List.mem_of_getElem? (i := 151) (by decide +kernel)) rfl
theorem wd889 : (.methodLink RL 138 yX11_even : Cond) ∈ lw_ok := lm4 (List.mem_of_getElem? (i := 152) (by decide +kernel)) rfl
theorem wd890 : (.instanceMethod yX11_even : Cond) ∈ lw_ok := lm4 (List.mem_of_getElem? (i := 153) (by decide +kernel)) rfl
theorem wd891 : (.selects RX11 yX11_even yX11_even : Cond) ∈ lw_ok := lm4 (List.mem_of_getElem? (i := 154) (by decide +kernel)) rfl
theorem wd892 : (.code yX11_even cX11_even 6 (some .int) : Cond) ∈ lw_ok := lm4 (List.mem_of_getElem? (i := 155) (by decide +kernel)) rfl
theorem wd893 : (.methodLink RX11 379 yX10_apartAfter : Cond) ∈ lw_ok := lm4 (List.mem_of_getElem? (i := 156) (by decide +kernel)) rfl
theorem wd894 : (.instanceMethod yX10_apartAfter : Cond) ∈ lw_ok := lm4 (List.mem_of_getElem? (i := 157) (by decide +kernel)) rfl
theorem wd895 : (.selects RX10 yX10_apartAfter yX10_apartAfter : Cond) ∈ lw_ok := lm4 (List.mem_of_getElem? (i := 158) (by decide +kernel)) rfl
theorem wd896 : (.code yX10_apartAfter cX10_apartAfter 8 (some .int) : Cond) ∈ lw_ok := lm4 (List.mem_of_getElem? (i := 159) (by decide +kernel)) rfl
theorem wd897 : (.methodLink RX10 56 yX7_sizeOf : Cond) ∈ lw_ok := lm4 (List.mem_of_getElem? (i := 160) (by decide +kernel)) rfl
theorem wd898 : (.methodLink RX10 62 yX7_cell : Cond) ∈ lw_ok := lm4 (List.mem_of_getElem? (i := 161) (by decide +kernel)) rfl
theorem wd899 : (.methodLink RX10 65 Lib.Math.max.name : Cond) ∈ lw_ok := lm4 (List.mem_of_getElem? (i := 162) (by decide +kernel)) rfl
theorem wd900 : (.methodLink RX10 70 Lib.Math.min.name : Cond) ∈ lw_ok := lm4 (List.mem_of_getElem? (i := 163) (by decide +kernel)) rfl
theorem wd901 : (.methodLink RL 9 yX11_asked : Cond) ∈ lw_ok := lm4 (List.mem_of_getElem? (i := 164) (by decide +kernel)) rfl
theorem wd902 : (.instanceMethod yX11_asked : Cond) ∈ lw_ok := lm4 (List.mem_of_getElem? (i := 165) (by decide +kernel)) rfl
theorem wd903 : (.selects RX11 yX11_asked yX11_asked : Cond) ∈ lw_ok := lm4 (List.mem_of_getElem? (i := 166) (by decide +kernel)) rfl
theorem wd904 : (.code yX11_asked cX11_asked 1 (some .int) : Cond) ∈ lw_ok := lm4 (List.mem_of_getElem? (i := 167) (by decide +kernel)) rfl
theorem wd905 : (.methodLink RL 83 yX11_upper : Cond) ∈ lw_ok := lm4 (List.mem_of_getElem? (i := 168) (by decide +kernel)) rfl
theorem wd906 : (.instanceMethod yX11_upper : Cond) ∈ lw_ok := lm4 (List.mem_of_getElem? (i := 169) (by decide +kernel)) rfl
theorem wd907 : (.selects RX11 yX11_upper yX11_upper : Cond) ∈ lw_ok := lm4 (List.mem_of_getElem? (i := 170) (by decide +kernel)) rfl
theorem wd908 : (.code yX11_upper cX11_upper 1 (some .long) : Cond) ∈ lw_ok := lm4 (List.mem_of_getElem? (i := 171) (by decide +kernel)) rfl
theorem wd909 : (.methodLink RL 87 yX11_lower : Cond) ∈ lw_ok := lm4 (List.mem_of_getElem? (i := 172) (by decide +kernel)) rfl
theorem wd910 : (.instanceMethod yX11_lower : Cond) ∈ lw_ok := lm4 (List.mem_of_getElem? (i := 173) (by decide +kernel)) rfl
theorem wd911 : (.selects RX11 yX11_lower yX11_lower : Cond) ∈ lw_ok := lm4 (List.mem_of_getElem? (i := 174) (by decide +kernel)) rfl
theorem wd912 : (.code yX11_lower cX11_lower 1 (some .long) : Cond) ∈ lw_ok := lm4 (List.mem_of_getElem? (i := 175) (by decide +kernel)) rfl
theorem wd913 : (.methodLink RL 74 yX11_count : Cond) ∈ lw_ok := lm4 (List.mem_of_getElem? (i := 176) (by decide +kernel)) rfl
theorem wd914 : (.instanceMethod yX11_count : Cond) ∈ lw_ok := lm4 (List.mem_of_getElem? (i := 177) (by decide +kernel)) rfl
theorem wd915 : (.selects RX11 yX11_count yX11_count : Cond) ∈ lw_ok := lm4 (List.mem_of_getElem? (i := 178) (by decide +kernel)) rfl
theorem wd916 : (.code yX11_count cX11_count 2 (some .int) : Cond) ∈ lw_ok := lm4 (List.mem_of_getElem? (i := 179) (by decide +kernel)) rfl
theorem wd917 : (.methodLink RX11 383 yX1_numberOfKind : Cond) ∈ lw_ok := lm4 (List.mem_of_getElem? (i := 180) (by decide +kernel)) rfl
theorem wd918 : (.instanceMethod yX1_numberOfKind : Cond) ∈ lw_ok := lm4 (List.mem_of_getElem? (i := 181) (by decide +kernel)) rfl
theorem wd919 : (.selects RX1 yX1_numberOfKind yX1_numberOfKind : Cond) ∈ lw_ok := lm4 (List.mem_of_getElem? (i := 182) (by decide +kernel)) rfl
theorem wd920 : (.code yX1_numberOfKind cX1_numberOfKind 4 (some .int) : Cond) ∈ lw_ok := lm4 (List.mem_of_getElem? (i := 183) (by decide +kernel)) rfl
theorem wd921 : (.methodLink RX1 23 yX1_isOfKind : Cond) ∈ lw_ok := lm4 (List.mem_of_getElem? (i := 184) (by decide +kernel)) rfl
theorem wd922 : (.methodLink RX11 386 yX11_numberOfKept : Cond) ∈ lw_ok := lm4 (List.mem_of_getElem? (i := 185) (by decide +kernel)) rfl
theorem wd924 : (.instanceMethod yX11_numberOfKept : Cond) ∈ lw_ok := lm4 (List.mem_of_getElem? (i := 187) (by decide +kernel)) rfl
theorem wd925 : (.code yX11_numberOfKept cX11_numberOfKept 3 (some .int) : Cond) ∈ lw_ok := lm4 (List.mem_of_getElem? (i := 188) (by decide +kernel)) rfl
theorem wd926 : (.methodLink RX11 409 yX11_hourKept : Cond) ∈ lw_ok := lm4 (List.mem_of_getElem? (i := 189) (by decide +kernel)) rfl
theorem wd928 : (.instanceMethod yX11_hourKept : Cond) ∈ lw_ok := lm4 (List.mem_of_getElem? (i := 191) (by decide +kernel)) rfl
theorem wd929 : (.code yX11_hourKept cX11_hourKept 3 (some .int) : Cond) ∈ lw_ok := lm4 (List.mem_of_getElem? (i := 192) (by decide +kernel)) rfl
theorem wd930 : (.methodLink RX11 389 yX7_numberThere : Cond) ∈ lw_ok := lm4 (List.mem_of_getElem? (i := 193) (by decide +kernel)) rfl
theorem wd931 : (.instanceMethod yX7_numberThere : Cond) ∈ lw_ok := lm4 (List.mem_of_getElem? (i := 194) (by decide +kernel)) rfl
theorem wd932 : (.selects RX7 yX7_numberThere yX7_numberThere : Cond) ∈ lw_ok := lm4 (List.mem_of_getElem? (i := 195) (by decide +kernel)) rfl
theorem wd933 : (.code yX7_numberThere cX7_numberThere 3 (some .int) : Cond) ∈ lw_ok := lm4 (List.mem_of_getElem? (i := 196) (by decide +kernel)) rfl
theorem wd934 : (.methodLink RX7 43 yX7_isThere : Cond) ∈ lw_ok := lm4 (List.mem_of_getElem? (i := 197) (by decide +kernel)) rfl
theorem wd935 : (.methodLink RL 21 yL_low : Cond) ∈ lw_ok := lm4 (List.mem_of_getElem? (i := 198) (by decide +kernel)) rfl
theorem wd936 : (.static yL_low : Cond) ∈ lw_ok := lm4 (List.mem_of_getElem? (i := 199) (by decide +kernel)) rfl
theorem wd937 : (.code yL_low cL_low 2 (some .int) : Cond) ∈ lw_ok := lm4 (List.mem_of_getElem? (i := 200) (by decide +kernel)) rfl
theorem wd938 : (.constant RL 7 (2147483647) : Cond) ∈ lw_ok := lm4 (List.mem_of_getElem? (i := 201) (by decide +kernel)) rfl
theorem wd939 : (.methodLink RL 15 yL_cell : Cond) ∈ lw_ok := lm4 (List.mem_of_getElem? (i := 202) (by decide +kernel)) rfl
theorem wd940 : (.static yL_cell : Cond) ∈ lw_ok := lm4 (List.mem_of_getElem? (i := 203) (by decide +kernel)) rfl
theorem wd941 : (.code yL_cell cL_cell 2 (some .int) : Cond) ∈ lw_ok := lm4 (List.mem_of_getElem? (i := 204) (by decide +kernel)) rfl
theorem wd942 : (.constant RL 8 (40503) : Cond) ∈ lw_ok := lm4 (List.mem_of_getElem? (i := 205) (by decide +kernel)) rfl
theorem wd943 : (.methodLink RL 68 yL_told : Cond) ∈ lw_ok := lm4 (List.mem_of_getElem? (i := 206) (by decide +kernel)) rfl
theorem wd944 : (.static yL_told : Cond) ∈ lw_ok := lm4 (List.mem_of_getElem? (i := 207) (by decide +kernel)) rfl
theorem wd945 : (.code yL_told cL_told 2 (some .int) : Cond) ∈ lw_ok := lm4 (List.mem_of_getElem? (i := 208) (by decide +kernel)) rfl
theorem wd946 : (.methodLink RL 40 yL_office : Cond) ∈ lw_ok := lm4 (List.mem_of_getElem? (i := 209) (by decide +kernel)) rfl
theorem wd947 : (.static yL_office : Cond) ∈ lw_ok := lm4 (List.mem_of_getElem? (i := 210) (by decide +kernel)) rfl
theorem wd948 : (.code yL_office cL_office 12 (some .boolean) : Cond) ∈ lw_ok := lm4 (List.mem_of_getElem? (i := 211) (by decide +kernel)) rfl
theorem wd949 : (.methodLink RL 25 yX11_text : Cond) ∈ lw_ok := lm4 (List.mem_of_getElem? (i := 212) (by decide +kernel)) rfl
theorem wd950 : (.instanceMethod yX11_text : Cond) ∈ lw_ok := lm4 (List.mem_of_getElem? (i := 213) (by decide +kernel)) rfl
theorem wd951 : (.selects RX11 yX11_text yX11_text : Cond) ∈ lw_ok := lm4 (List.mem_of_getElem? (i := 214) (by decide +kernel)) rfl
theorem wd952 : (.code yX11_text cX11_text 3 (some .int) : Cond) ∈ lw_ok := lm4 (List.mem_of_getElem? (i := 215) (by decide +kernel)) rfl
theorem wd953 : (.methodLink RL 28 yX11_put : Cond) ∈ lw_ok := lm4 (List.mem_of_getElem? (i := 216) (by decide +kernel)) rfl
theorem wd954 : (.instanceMethod yX11_put : Cond) ∈ lw_ok := lm4 (List.mem_of_getElem? (i := 217) (by decide +kernel)) rfl
theorem wd955 : (.selects RX11 yX11_put yX11_put : Cond) ∈ lw_ok := lm4 (List.mem_of_getElem? (i := 218) (by decide +kernel)) rfl
theorem wd956 : (.code yX11_put cX11_put 6 (some .int) : Cond) ∈ lw_ok := lm4 (List.mem_of_getElem? (i := 219) (by decide +kernel)) rfl
theorem wd957 : (.methodLink RL 32 yX11_fault : Cond) ∈ lw_ok := lm4 (List.mem_of_getElem? (i := 220) (by decide +kernel)) rfl
theorem wd958 : (.instanceMethod yX11_fault : Cond) ∈ lw_ok := lm4 (List.mem_of_getElem? (i := 221) (by decide +kernel)) rfl
theorem wd959 : (.selects RX11 yX11_fault yX11_fault : Cond) ∈ lw_ok := lm4 (List.mem_of_getElem? (i := 222) (by decide +kernel)) rfl
theorem wd960 : (.code yX11_fault cX11_fault 3 (some .int) : Cond) ∈ lw_ok := lm4 (List.mem_of_getElem? (i := 223) (by decide +kernel)) rfl
theorem wd961 : (.methodLink RX11 160 yX1_read : Cond) ∈ lw_ok := lm4 (List.mem_of_getElem? (i := 224) (by decide +kernel)) rfl
theorem wd962 : (.instanceMethod yX1_read : Cond) ∈ lw_ok := lm4 (List.mem_of_getElem? (i := 225) (by decide +kernel)) rfl
theorem wd963 : (.selects RX1 yX1_read yX1_read : Cond) ∈ lw_ok := lm4 (List.mem_of_getElem? (i := 226) (by decide +kernel)) rfl
theorem wd964 : (.code yX1_read cX1_read 8 (some .int) : Cond) ∈ lw_ok := lm4 (List.mem_of_getElem? (i := 227) (by decide +kernel)) rfl
theorem wd965 : (.methodLink RX1 47 yX7_sizeOf : Cond) ∈ lw_ok := lm4 (List.mem_of_getElem? (i := 228) (by decide +kernel)) rfl
theorem wd966 : (.methodLink RX1 52 yX7_cell : Cond) ∈ lw_ok := lm4 (List.mem_of_getElem? (i := 229) (by decide +kernel)) rfl
theorem wd967 : (.methodLink RX1 55 yX1_kindOf : Cond) ∈ lw_ok := lm4 (List.mem_of_getElem? (i := 230) (by decide +kernel)) rfl
theorem wd968 : (.static yX1_kindOf : Cond) ∈ lw_ok := lm4 (List.mem_of_getElem? (i := 231) (by decide +kernel)) rfl
theorem wd969 : (.code yX1_kindOf cX1_kindOf 2 (some .int) : Cond) ∈ lw_ok := lm4 (List.mem_of_getElem? (i := 232) (by decide +kernel)) rfl
theorem wd972 : (.methodLink RX1 58 yX1_readDesk : Cond) ∈ lw_ok := lm4 (List.mem_of_getElem? (i := 235) (by decide +kernel)) rfl
theorem wd973 : (.instanceMethod yX1_readDesk : Cond) ∈ lw_ok := lm4 (List.mem_of_getElem? (i := 236) (by decide +kernel)) rfl
theorem wd974 : (.selects RX1 yX1_readDesk yX1_readDesk : Cond) ∈ lw_ok := lm4 (List.mem_of_getElem? (i := 237) (by decide +kernel)) rfl
theorem wd975 : (.code yX1_readDesk cX1_readDesk 8 (some .int) : Cond) ∈ lw_ok := lm4 (List.mem_of_getElem? (i := 238) (by decide +kernel)) rfl
theorem wd976 : (.methodLink RX1 65 yX1_setFact : Cond) ∈ lw_ok := lm4 (List.mem_of_getElem? (i := 239) (by decide +kernel)) rfl
theorem wd977 : (.instanceMethod yX1_setFact : Cond) ∈ lw_ok := lm5 (List.mem_of_getElem? (i := 0) (by decide +kernel)) rfl
theorem wd978 : (.selects RX1 yX1_setFact yX1_setFact : Cond) ∈ lw_ok := lm5 (List.mem_of_getElem? (i := 1) (by decide +kernel)) rfl
theorem wd979 : (.code yX1_setFact cX1_setFact 5 (none : Option Jvm.ClassFile.FieldType) : Cond) ∈ lw_ok := lm5 (List.mem_of_getElem? (i := 2) (by decide +kernel)) rfl
theorem wd980 : (.methodLink RX1 62 yX1_figuresOf : Cond) ∈ lw_ok := lm5 (List.mem_of_getElem? (i := 3) (by decide +kernel)) rfl
theorem wd981 : (.static yX1_figuresOf : Cond) ∈ lw_ok := lm5 (List.mem_of_getElem? (i := 4) (by decide +kernel)) rfl
theorem wd982 : (.code yX1_figuresOf cX1_figuresOf 1 (some .int) : Cond) ∈ lw_ok := lm5 (List.mem_of_getElem? (i := 5) (by decide +kernel)) rfl
theorem wd983 : (.methodLink RX1 69 yX7_hasPlace : Cond) ∈ lw_ok := lm5 (List.mem_of_getElem? (i := 6) (by decide +kernel)) rfl
theorem wd984 : (.methodLink RX1 72 yX1_leastFigure : Cond) ∈ lw_ok := lm5 (List.mem_of_getElem? (i := 7) (by decide +kernel)) rfl
theorem wd985 : (.static yX1_leastFigure : Cond) ∈ lw_ok := lm5 (List.mem_of_getElem? (i := 8) (by decide +kernel)) rfl
theorem wd986 : (.code yX1_leastFigure cX1_leastFigure 3 (some .int) : Cond) ∈ lw_ok := lm5 (List.mem_of_getElem? (i := 9) (by decide +kernel)) rfl
theorem wd987 : (.methodLink RL 36 yX11_office : Cond) ∈ lw_ok := lm5 (List.mem_of_getElem? (i := 10) (by decide +kernel)) rfl
theorem wd988 : (.instanceMethod yX11_office : Cond) ∈ lw_ok := lm5 (List.mem_of_getElem? (i := 11) (by decide +kernel)) rfl
theorem wd989 : (.selects RX11 yX11_office yX11_office : Cond) ∈ lw_ok := lm5 (List.mem_of_getElem? (i := 12) (by decide +kernel)) rfl
theorem wd990 : (.code yX11_office cX11_office 4 (some .int) : Cond) ∈ lw_ok := lm5 (List.mem_of_getElem? (i := 13) (by decide +kernel)) rfl
theorem wd991 : (.methodLink RX11 163 yX6_reset : Cond) ∈ lw_ok := lm5 (List.mem_of_getElem? (i := 14) (by decide +kernel)) rfl
theorem wd992 : (.instanceMethod yX6_reset : Cond) ∈ lw_ok := lm5 (List.mem_of_getElem? (i := 15) (by decide +kernel)) rfl
theorem wd993 : (.selects RX6 yX6_reset yX6_reset : Cond) ∈ lw_ok := lm5 (List.mem_of_getElem? (i := 16) (by decide +kernel)) rfl
theorem wd994 : (.code yX6_reset cX6_reset 1 (none : Option Jvm.ClassFile.FieldType) : Cond) ∈ lw_ok := lm5 (List.mem_of_getElem? (i := 17) (by decide +kernel)) rfl
theorem wd995 : (.methodLink RX6 53 yX6_beginAt : Cond) ∈ lw_ok := lm5 (List.mem_of_getElem? (i := 18) (by decide +kernel)) rfl
theorem wd996 : (.methodLink RX11 169 yX11_forgetKept : Cond) ∈ lw_ok := lm5 (List.mem_of_getElem? (i := 19) (by decide +kernel)) rfl
theorem wd998 : (.instanceMethod yX11_forgetKept : Cond) ∈ lw_ok := lm5 (List.mem_of_getElem? (i := 21) (by decide +kernel)) rfl
theorem wd999 : (.code yX11_forgetKept cX11_forgetKept 3 (none : Option Jvm.ClassFile.FieldType) : Cond) ∈ lw_ok := lm5 (List.mem_of_getElem? (i := 22) (by decide +kernel)) rfl
theorem wd1000 : (.methodLink RL 77 yL_bits : Cond) ∈ lw_ok := lm5 (List.mem_of_getElem? (i := 23) (by decide +kernel)) rfl
theorem wd1001 : (.static yL_bits : Cond) ∈ lw_ok := lm5 (List.mem_of_getElem? (i := 24) (by decide +kernel)) rfl
theorem wd1002 : (.code yL_bits cL_bits 3 (some .int) : Cond) ∈ lw_ok := lm5 (List.mem_of_getElem? (i := 25) (by decide +kernel)) rfl
theorem wd1003 : (.constant RL 58 (100000) : Cond) ∈ lw_ok := lm5 (List.mem_of_getElem? (i := 26) (by decide +kernel)) rfl
theorem inX0 : ∀ w ∈ u_ws RX0 TX0 1, w ∈ lw_ok := sub_g _ [229] (by decide +kernel) (by decide +kernel)
theorem inX1 : ∀ w ∈ u_ws RX1 TX1 2, w ∈ lw_ok := sub_g _ [70, 72] (by decide +kernel) (by decide +kernel)
theorem inX2 : ∀ w ∈ u_ws RX2 TX2 4, w ∈ lw_ok := sub_g _ [267, 269, 271, 273] (by decide +kernel) (by decide +kernel)
theorem inX3 : ∀ w ∈ u_ws RX3 TX3 6, w ∈ lw_ok := sub_g _ [291, 293, 295, 297, 299, 301] (by decide +kernel) (by decide +kernel)
theorem inX4 : ∀ w ∈ u_ws RX4 TX4 1, w ∈ lw_ok := sub_g _ [311] (by decide +kernel) (by decide +kernel)
theorem inX5 : ∀ w ∈ u_ws RX5 TX5 6, w ∈ lw_ok := sub_g _ [209, 211, 213, 215, 217, 219] (by decide +kernel) (by decide +kernel)
theorem inX6 : ∀ w ∈ u_ws RX6 TX6 13, w ∈ lw_ok := sub_g _ [112, 114, 116, 118, 120, 122, 124, 126, 128, 130, 132, 134, 136] (by decide +kernel) (by decide +kernel)
theorem inX7 : ∀ w ∈ u_ws RX7 TX7 3, w ∈ lw_ok := sub_g _ [52, 54, 56] (by decide +kernel) (by decide +kernel)
theorem inX8 : ∀ w ∈ u_ws RX8 TX8 4, w ∈ lw_ok := sub_g _ [252, 254, 256, 258] (by decide +kernel) (by decide +kernel)
theorem inX9 : ∀ w ∈ u_ws RX9 TX9 6, w ∈ lw_ok := sub_g _ [180, 182, 184, 186, 188, 190] (by decide +kernel) (by decide +kernel)
theorem inX10 : ∀ w ∈ u_ws RX10 TX10 4, w ∈ lw_ok := sub_g _ [151, 153, 155, 157] (by decide +kernel) (by decide +kernel)
theorem inX11 : ∀ w ∈ u_ws RX11 TX11 19, w ∈ lw_ok := sub_g _ [333, 335, 337, 339, 341, 343, 345, 347, 349, 351, 353, 355, 357, 359, 361, 363, 365, 367, 369] (by decide +kernel) (by decide +kernel)
