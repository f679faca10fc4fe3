/-! Printed by wip/gen.py: the words of the tables that the rows need. -/
def mTg : List Cond := lw_tbl.filter goodWord
theorem tg_in {w : Cond} (i : Nat) (h : tables_1[i]? = some w) (hg : goodWord w = true) : w ∈ mTg := List.mem_filter.mpr ⟨List.mem_append_right _ (List.mem_of_getElem? h), hg⟩
theorem tg_se {w : Cond} (i : Nat) (h : (k2_sels lw_privs)[i]? = some w) (hg : goodWord w = true) : w ∈ mTg := List.mem_filter.mpr ⟨List.mem_append_left _ (List.mem_of_getElem? h), hg⟩
theorem mi {w : Cond} {M : mx_M} (h : w ∈ mTg) : w ∈ mW mTg M := List.mem_cons_of_mem _ h
theorem mh {M : mx_M} {ws : List Cond} (h : ∀ w ∈ ws, w ∈ mTg) : ∀ w ∈ ws, w ∈ mW mTg M := fun w hw => mi (h w hw)
theorem tg_all {ws : List Cond} (h : ∀ w ∈ ws, w ∈ tables_1 ∧ goodWord w = true) : ∀ w ∈ ws, w ∈ mTg := fun w hw => List.mem_filter.mpr ⟨List.mem_append_right _ (h w hw).1, (h w hw).2⟩
theorem wm_0 : Cond.methodLink "CountDesk" 1 Lib.objectInit ∈ mTg := tg_in 13 (by decide +kernel) rfl
theorem wm_1 : Cond.instanceMethod Lib.objectInit ∈ mTg := tg_in 14 (by decide +kernel) rfl
theorem wm_2 : Cond.code Lib.objectInit ⟨#[0xb1]⟩ 1 none ∈ mTg := tg_in 15 (by rfl) rfl
theorem wm_3 : Cond.classLink "CountDesk" 9 "CountDesk$Node" ∈ mTg := tg_in 16 (by decide +kernel) rfl
theorem wm_4 : Cond.fieldLink "CountDesk" 11 "CountDesk" "nodes" "[LCountDesk$Node;" ∈ mTg := tg_in 154 (by decide +kernel) rfl
theorem wm_5 : Cond.classLink "CountDesk" 15 "CountDesk$Splitter" ∈ mTg := tg_in 18 (by decide +kernel) rfl
theorem wm_6 : Cond.instantiable "CountDesk$Splitter" 3 ∈ mTg := tg_in 19 (by decide +kernel) rfl
theorem wm_7 : Cond.initialized "CountDesk$Splitter" ∈ mTg := tg_in 2 (by decide +kernel) rfl
theorem wm_8 : Cond.instanceMethod ⟨"CountDesk$Splitter", "<init>", "()V"⟩ ∈ mTg := tg_in 21 (by decide +kernel) rfl
theorem wm_9 : Cond.fieldLink "CountDesk" 18 "CountDesk" "splitter" "LCountDesk$Splitter;" ∈ mTg := tg_in 155 (by decide +kernel) rfl
theorem wm_10 : Cond.initialized "CountDesk" ∈ mTg := tg_in 1 (by decide +kernel) rfl
theorem wm_11 : Cond.methodLink "CountDesk" 22 ⟨"CountDesk", "startOver", "()V"⟩ ∈ mTg := tg_in 81 (by decide +kernel) rfl
theorem wm_12 : Cond.instanceMethod ⟨"CountDesk", "startOver", "()V"⟩ ∈ mTg := tg_in 83 (by decide +kernel) rfl
theorem wm_13 : Cond.selects "CountDesk" ⟨"CountDesk", "startOver", "()V"⟩ ⟨"CountDesk", "startOver", "()V"⟩ ∈ mTg := tg_se 0 (by decide +kernel) rfl
theorem wm_14 : Cond.methodLink "CountDesk$Splitter" 3 Lib.objectInit ∈ mTg := tg_in 23 (by decide +kernel) rfl
theorem wm_15 : Cond.classLink "CountDesk$Splitter" 9 "CountDesk$Arm" ∈ mTg := tg_in 24 (by decide +kernel) rfl
theorem wm_16 : Cond.instantiable "CountDesk$Arm" 11 ∈ mTg := tg_in 25 (by decide +kernel) rfl
theorem wm_17 : Cond.initialized "CountDesk$Arm" ∈ mTg := tg_in 3 (by decide +kernel) rfl
theorem wm_18 : Cond.instanceMethod ⟨"CountDesk$Arm", "<init>", "()V"⟩ ∈ mTg := tg_in 27 (by decide +kernel) rfl
theorem wm_19 : Cond.fieldLink "CountDesk$Splitter" 12 "CountDesk$Splitter" "top" "LCountDesk$Arm;" ∈ mTg := tg_in 71 (by decide +kernel) rfl
theorem wm_20 : Cond.fieldLink "CountDesk$Splitter" 18 "CountDesk$Splitter" "opened" "[LCountDesk$Arm;" ∈ mTg := tg_in 72 (by decide +kernel) rfl
theorem wm_21 : Cond.methodLink "CountDesk$Arm" 3 Lib.objectInit ∈ mTg := tg_in 29 (by decide +kernel) rfl
theorem wm_22 : Cond.instantiable "CountDesk$Node" 15 ∈ mTg := tg_in 85 (by decide +kernel) rfl
theorem wm_23 : Cond.initialized "CountDesk$Node" ∈ mTg := tg_in 4 (by decide +kernel) rfl
theorem wm_24 : Cond.methodLink "CountDesk" 49 ⟨"CountDesk$Node", "<init>", "(IJ)V"⟩ ∈ mTg := tg_in 86 (by decide +kernel) rfl
theorem wm_25 : Cond.instanceMethod ⟨"CountDesk$Node", "<init>", "(IJ)V"⟩ ∈ mTg := tg_in 87 (by decide +kernel) rfl
theorem wm_26 : Cond.fieldLink "CountDesk" 103 "CountDesk" "nodeCount" "I" ∈ mTg := tg_in 156 (by decide +kernel) rfl
theorem wm_27 : Cond.methodLink "CountDesk" 41 ⟨"CountDesk", "emptyWaiting", "()J"⟩ ∈ mTg := tg_in 150 (by decide +kernel) rfl
theorem wm_28 : Cond.instanceMethod ⟨"CountDesk", "emptyWaiting", "()J"⟩ ∈ mTg := tg_in 152 (by decide +kernel) rfl
theorem wm_29 : Cond.selects "CountDesk" ⟨"CountDesk", "emptyWaiting", "()J"⟩ ⟨"CountDesk", "emptyWaiting", "()J"⟩ ∈ mTg := tg_se 1 (by decide +kernel) rfl
theorem wm_30 : Cond.methodLink "CountDesk$Node" 3 Lib.objectInit ∈ mTg := tg_in 89 (by decide +kernel) rfl
theorem wm_31 : Cond.fieldLink "CountDesk$Node" 9 "CountDesk$Node" "variable" "I" ∈ mTg := tg_in 98 (by decide +kernel) rfl
theorem wm_32 : Cond.fieldLink "CountDesk$Node" 15 "CountDesk$Node" "tag" "I" ∈ mTg := tg_in 100 (by decide +kernel) rfl
theorem wm_33 : Cond.fieldLink "CountDesk$Node" 18 "CountDesk$Node" "all" "I" ∈ mTg := tg_in 103 (by decide +kernel) rfl
theorem wm_34 : Cond.fieldLink "CountDesk$Node" 21 "CountDesk$Node" "sort" "I" ∈ mTg := tg_in 90 (by decide +kernel) rfl
theorem wm_35 : Cond.fieldLink "CountDesk$Node" 24 "CountDesk$Node" "makes" "J" ∈ mTg := tg_in 92 (by decide +kernel) rfl
theorem wm_36 : Cond.fieldLink "CountDesk" 33 "CountDesk" "waiting" "J" ∈ mTg := tg_in 157 (by decide +kernel) rfl
theorem wm_37 : Cond.fieldLink "CountDesk" 25 "CountDesk" "waitingCount" "I" ∈ mTg := tg_in 158 (by decide +kernel) rfl
theorem wm_38 : Cond.methodLink "CountDesk" 29 ⟨"CountDesk", "isVariable", "(I)Z"⟩ ∈ mTg := tg_in 178 (by decide +kernel) rfl
theorem wm_39 : Cond.static ⟨"CountDesk", "isVariable", "(I)Z"⟩ ∈ mTg := tg_in 179 (by decide +kernel) rfl
theorem wm_40 : Cond.methodLink "CountDesk" 37 ⟨"CountDesk$Node", "bit", "(I)J"⟩ ∈ mTg := tg_in 181 (by decide +kernel) rfl
theorem wm_41 : Cond.static ⟨"CountDesk$Node", "bit", "(I)J"⟩ ∈ mTg := tg_in 182 (by decide +kernel) rfl
theorem wm_42 : Cond.methodLink "CountDesk" 45 ⟨"CountDesk", "openParent", "(I)LCountDesk$Node;"⟩ ∈ mTg := tg_in 188 (by decide +kernel) rfl
theorem wm_43 : Cond.instanceMethod ⟨"CountDesk", "openParent", "(I)LCountDesk$Node;"⟩ ∈ mTg := tg_in 190 (by decide +kernel) rfl
theorem wm_44 : Cond.selects "CountDesk" ⟨"CountDesk", "openParent", "(I)LCountDesk$Node;"⟩ ⟨"CountDesk", "openParent", "(I)LCountDesk$Node;"⟩ ∈ mTg := tg_se 2 (by decide +kernel) rfl
theorem wm_45 : Cond.methodLink "CountDesk" 52 ⟨"CountDesk", "hang", "(LCountDesk$Node;LCountDesk$Node;)I"⟩ ∈ mTg := tg_in 200 (by decide +kernel) rfl
theorem wm_46 : Cond.instanceMethod ⟨"CountDesk", "hang", "(LCountDesk$Node;LCountDesk$Node;)I"⟩ ∈ mTg := tg_in 202 (by decide +kernel) rfl
theorem wm_47 : Cond.selects "CountDesk" ⟨"CountDesk", "hang", "(LCountDesk$Node;LCountDesk$Node;)I"⟩ ⟨"CountDesk", "hang", "(LCountDesk$Node;LCountDesk$Node;)I"⟩ ∈ mTg := tg_se 4 (by decide +kernel) rfl
theorem wm_48 : Cond.methodLink "CountDesk" 72 ⟨"CountDesk", "find", "(I)LCountDesk$Node;"⟩ ∈ mTg := tg_in 192 (by decide +kernel) rfl
theorem wm_49 : Cond.instanceMethod ⟨"CountDesk", "find", "(I)LCountDesk$Node;"⟩ ∈ mTg := tg_in 194 (by decide +kernel) rfl
theorem wm_50 : Cond.selects "CountDesk" ⟨"CountDesk", "find", "(I)LCountDesk$Node;"⟩ ⟨"CountDesk", "find", "(I)LCountDesk$Node;"⟩ ∈ mTg := tg_se 3 (by decide +kernel) rfl
theorem wm_51 : Cond.methodLink "CountDesk" 106 ⟨"CountDesk$Node", "hasRoom", "()Z"⟩ ∈ mTg := tg_in 196 (by decide +kernel) rfl
theorem wm_52 : Cond.instanceMethod ⟨"CountDesk$Node", "hasRoom", "()Z"⟩ ∈ mTg := tg_in 197 (by decide +kernel) rfl
theorem wm_53 : Cond.selects "CountDesk$Node" ⟨"CountDesk$Node", "hasRoom", "()Z"⟩ ⟨"CountDesk$Node", "hasRoom", "()Z"⟩ ∈ mTg := tg_in 198 (by decide +kernel) rfl
theorem wm_54 : Cond.fieldLink "CountDesk$Node" 28 "CountDesk$Node" "depth" "I" ∈ mTg := tg_in 95 (by decide +kernel) rfl
theorem wm_55 : Cond.fieldLink "CountDesk$Node" 31 "CountDesk$Node" "partCount" "I" ∈ mTg := tg_in 106 (by decide +kernel) rfl
theorem wm_56 : Cond.fieldLink "CountDesk" 110 "CountDesk$Node" "number" "I" ∈ mTg := tg_in 94 (by decide +kernel) rfl
theorem wm_57 : Cond.methodLink "CountDesk" 113 ⟨"CountDesk$Node", "append", "(LCountDesk$Node;)V"⟩ ∈ mTg := tg_in 204 (by decide +kernel) rfl
theorem wm_58 : Cond.instanceMethod ⟨"CountDesk$Node", "append", "(LCountDesk$Node;)V"⟩ ∈ mTg := tg_in 205 (by decide +kernel) rfl
theorem wm_59 : Cond.selects "CountDesk$Node" ⟨"CountDesk$Node", "append", "(LCountDesk$Node;)V"⟩ ⟨"CountDesk$Node", "append", "(LCountDesk$Node;)V"⟩ ∈ mTg := tg_in 206 (by decide +kernel) rfl
theorem wm_60 : Cond.fieldLink "CountDesk" 75 "CountDesk$Node" "sort" "I" ∈ mTg := tg_in 91 (by decide +kernel) rfl
theorem wm_61 : Cond.methodLink "CountDesk" 117 ⟨"CountDesk$Splitter", "kindOf", "(LCountDesk$Node;)I"⟩ ∈ mTg := tg_in 208 (by decide +kernel) rfl
theorem wm_62 : Cond.instanceMethod ⟨"CountDesk$Splitter", "kindOf", "(LCountDesk$Node;)I"⟩ ∈ mTg := tg_in 209 (by decide +kernel) rfl
theorem wm_63 : Cond.selects "CountDesk$Splitter" ⟨"CountDesk$Splitter", "kindOf", "(LCountDesk$Node;)I"⟩ ⟨"CountDesk$Splitter", "kindOf", "(LCountDesk$Node;)I"⟩ ∈ mTg := tg_in 210 (by decide +kernel) rfl
theorem wm_64 : Cond.methodLink "CountDesk" 120 ⟨"CountDesk$Node", "kindFromParts", "()I"⟩ ∈ mTg := tg_in 304 (by decide +kernel) rfl
theorem wm_65 : Cond.instanceMethod ⟨"CountDesk$Node", "kindFromParts", "()I"⟩ ∈ mTg := tg_in 305 (by decide +kernel) rfl
theorem wm_66 : Cond.selects "CountDesk$Node" ⟨"CountDesk$Node", "kindFromParts", "()I"⟩ ⟨"CountDesk$Node", "kindFromParts", "()I"⟩ ∈ mTg := tg_in 306 (by decide +kernel) rfl
theorem wm_67 : Cond.fieldLink "CountDesk" 56 "CountDesk$Node" "kind" "I" ∈ mTg := tg_in 96 (by decide +kernel) rfl
theorem wm_68 : Cond.fieldLink "CountDesk" 124 "CountDesk$Node" "parent" "LCountDesk$Node;" ∈ mTg := tg_in 109 (by decide +kernel) rfl
theorem wm_69 : Cond.fieldLink "CountDesk$Node" 34 "CountDesk$Node" "parent" "LCountDesk$Node;" ∈ mTg := tg_in 108 (by decide +kernel) rfl
theorem wm_70 : Cond.fieldLink "CountDesk$Node" 38 "CountDesk$Node" "last" "LCountDesk$Node;" ∈ mTg := tg_in 112 (by decide +kernel) rfl
theorem wm_71 : Cond.fieldLink "CountDesk$Node" 41 "CountDesk$Node" "first" "LCountDesk$Node;" ∈ mTg := tg_in 111 (by decide +kernel) rfl
theorem wm_72 : Cond.fieldLink "CountDesk$Node" 44 "CountDesk$Node" "next" "LCountDesk$Node;" ∈ mTg := tg_in 113 (by decide +kernel) rfl
theorem wm_73 : Cond.methodLink "CountDesk$Splitter" 22 ⟨"CountDesk$Splitter", "gather", "(LCountDesk$Node;)V"⟩ ∈ mTg := tg_in 212 (by decide +kernel) rfl
theorem wm_74 : Cond.instanceMethod ⟨"CountDesk$Splitter", "gather", "(LCountDesk$Node;)V"⟩ ∈ mTg := tg_in 214 (by decide +kernel) rfl
theorem wm_75 : Cond.selects "CountDesk$Splitter" ⟨"CountDesk$Splitter", "gather", "(LCountDesk$Node;)V"⟩ ⟨"CountDesk$Splitter", "gather", "(LCountDesk$Node;)V"⟩ ∈ mTg := tg_se 5 (by decide +kernel) rfl
theorem wm_76 : Cond.methodLink "CountDesk$Splitter" 26 ⟨"CountDesk$Splitter", "split", "(LCountDesk$Arm;)V"⟩ ∈ mTg := tg_in 237 (by decide +kernel) rfl
theorem wm_77 : Cond.instanceMethod ⟨"CountDesk$Splitter", "split", "(LCountDesk$Arm;)V"⟩ ∈ mTg := tg_in 239 (by decide +kernel) rfl
theorem wm_78 : Cond.selects "CountDesk$Splitter" ⟨"CountDesk$Splitter", "split", "(LCountDesk$Arm;)V"⟩ ⟨"CountDesk$Splitter", "split", "(LCountDesk$Arm;)V"⟩ ∈ mTg := tg_se 7 (by decide +kernel) rfl
theorem wm_79 : Cond.fieldLink "CountDesk$Splitter" 30 "CountDesk$Splitter" "openedCount" "I" ∈ mTg := tg_in 73 (by decide +kernel) rfl
theorem wm_80 : Cond.methodLink "CountDesk$Splitter" 34 ⟨"CountDesk$Splitter", "openedAt", "(I)LCountDesk$Arm;"⟩ ∈ mTg := tg_in 264 (by decide +kernel) rfl
theorem wm_81 : Cond.instanceMethod ⟨"CountDesk$Splitter", "openedAt", "(I)LCountDesk$Arm;"⟩ ∈ mTg := tg_in 266 (by decide +kernel) rfl
theorem wm_82 : Cond.selects "CountDesk$Splitter" ⟨"CountDesk$Splitter", "openedAt", "(I)LCountDesk$Arm;"⟩ ⟨"CountDesk$Splitter", "openedAt", "(I)LCountDesk$Arm;"⟩ ∈ mTg := tg_se 11 (by decide +kernel) rfl
theorem wm_83 : Cond.fieldLink "CountDesk$Splitter" 38 "CountDesk$Arm" "whole" "LCountDesk$Arm;" ∈ mTg := tg_in 31 (by decide +kernel) rfl
theorem wm_84 : Cond.methodLink "CountDesk$Splitter" 41 ⟨"CountDesk$Arm", "kindTogether", "()I"⟩ ∈ mTg := tg_in 268 (by decide +kernel) rfl
theorem wm_85 : Cond.instanceMethod ⟨"CountDesk$Arm", "kindTogether", "()I"⟩ ∈ mTg := tg_in 269 (by decide +kernel) rfl
theorem wm_86 : Cond.selects "CountDesk$Arm" ⟨"CountDesk$Arm", "kindTogether", "()I"⟩ ⟨"CountDesk$Arm", "kindTogether", "()I"⟩ ∈ mTg := tg_in 270 (by decide +kernel) rfl
theorem wm_87 : Cond.methodLink "CountDesk$Splitter" 45 ⟨"CountDesk$Arm", "hear", "(I)V"⟩ ∈ mTg := tg_in 297 (by decide +kernel) rfl
theorem wm_88 : Cond.instanceMethod ⟨"CountDesk$Arm", "hear", "(I)V"⟩ ∈ mTg := tg_in 298 (by decide +kernel) rfl
theorem wm_89 : Cond.selects "CountDesk$Arm" ⟨"CountDesk$Arm", "hear", "(I)V"⟩ ⟨"CountDesk$Arm", "hear", "(I)V"⟩ ∈ mTg := tg_in 299 (by decide +kernel) rfl
theorem wm_90 : Cond.methodLink "CountDesk$Splitter" 62 ⟨"CountDesk$Arm", "open", "(LCountDesk$Arm;I)V"⟩ ∈ mTg := tg_in 216 (by decide +kernel) rfl
theorem wm_91 : Cond.instanceMethod ⟨"CountDesk$Arm", "open", "(LCountDesk$Arm;I)V"⟩ ∈ mTg := tg_in 217 (by decide +kernel) rfl
theorem wm_92 : Cond.selects "CountDesk$Arm" ⟨"CountDesk$Arm", "open", "(LCountDesk$Arm;I)V"⟩ ⟨"CountDesk$Arm", "open", "(LCountDesk$Arm;I)V"⟩ ∈ mTg := tg_in 218 (by decide +kernel) rfl
theorem wm_93 : Cond.fieldLink "CountDesk$Splitter" 66 "CountDesk$Node" "first" "LCountDesk$Node;" ∈ mTg := tg_in 110 (by decide +kernel) rfl
theorem wm_94 : Cond.methodLink "CountDesk$Splitter" 72 ⟨"CountDesk$Node", "takenInHead", "()J"⟩ ∈ mTg := tg_in 221 (by decide +kernel) rfl
theorem wm_95 : Cond.instanceMethod ⟨"CountDesk$Node", "takenInHead", "()J"⟩ ∈ mTg := tg_in 222 (by decide +kernel) rfl
theorem wm_96 : Cond.selects "CountDesk$Node" ⟨"CountDesk$Node", "takenInHead", "()J"⟩ ⟨"CountDesk$Node", "takenInHead", "()J"⟩ ∈ mTg := tg_in 223 (by decide +kernel) rfl
theorem wm_97 : Cond.fieldLink "CountDesk$Splitter" 76 "CountDesk$Node" "taken" "J" ∈ mTg := tg_in 118 (by decide +kernel) rfl
theorem wm_98 : Cond.methodLink "CountDesk$Splitter" 80 ⟨"CountDesk$Arm", "enlist", "(LCountDesk$Node;)V"⟩ ∈ mTg := tg_in 233 (by decide +kernel) rfl
theorem wm_99 : Cond.instanceMethod ⟨"CountDesk$Arm", "enlist", "(LCountDesk$Node;)V"⟩ ∈ mTg := tg_in 234 (by decide +kernel) rfl
theorem wm_100 : Cond.selects "CountDesk$Arm" ⟨"CountDesk$Arm", "enlist", "(LCountDesk$Node;)V"⟩ ⟨"CountDesk$Arm", "enlist", "(LCountDesk$Node;)V"⟩ ∈ mTg := tg_in 235 (by decide +kernel) rfl
theorem wm_101 : Cond.fieldLink "CountDesk$Splitter" 83 "CountDesk$Node" "next" "LCountDesk$Node;" ∈ mTg := tg_in 114 (by decide +kernel) rfl
theorem wm_102 : Cond.fieldLink "CountDesk$Arm" 9 "CountDesk$Arm" "whole" "LCountDesk$Arm;" ∈ mTg := tg_in 30 (by decide +kernel) rfl
theorem wm_103 : Cond.fieldLink "CountDesk$Arm" 15 "CountDesk$Arm" "tag" "I" ∈ mTg := tg_in 32 (by decide +kernel) rfl
theorem wm_104 : Cond.fieldLink "CountDesk$Arm" 19 "CountDesk$Arm" "known" "J" ∈ mTg := tg_in 34 (by decide +kernel) rfl
theorem wm_105 : Cond.fieldLink "CountDesk$Arm" 23 "CountDesk$Arm" "variable" "I" ∈ mTg := tg_in 40 (by decide +kernel) rfl
theorem wm_106 : Cond.methodLink "CountDesk$Arm" 26 ⟨"CountDesk$Node", "bit", "(I)J"⟩ ∈ mTg := tg_in 220 (by decide +kernel) rfl
theorem wm_107 : Cond.fieldLink "CountDesk$Arm" 32 "CountDesk$Arm" "first" "LCountDesk$Node;" ∈ mTg := tg_in 35 (by decide +kernel) rfl
theorem wm_108 : Cond.fieldLink "CountDesk$Arm" 36 "CountDesk$Arm" "last" "LCountDesk$Node;" ∈ mTg := tg_in 37 (by decide +kernel) rfl
theorem wm_109 : Cond.fieldLink "CountDesk$Arm" 39 "CountDesk$Arm" "size" "I" ∈ mTg := tg_in 38 (by decide +kernel) rfl
theorem wm_110 : Cond.fieldLink "CountDesk$Arm" 42 "CountDesk$Arm" "all" "I" ∈ mTg := tg_in 42 (by decide +kernel) rfl
theorem wm_111 : Cond.fieldLink "CountDesk$Arm" 45 "CountDesk$Arm" "armCount" "I" ∈ mTg := tg_in 43 (by decide +kernel) rfl
theorem wm_112 : Cond.fieldLink "CountDesk$Arm" 48 "CountDesk$Arm" "armCanFail" "Z" ∈ mTg := tg_in 45 (by decide +kernel) rfl
theorem wm_113 : Cond.fieldLink "CountDesk$Arm" 52 "CountDesk$Arm" "armMost" "I" ∈ mTg := tg_in 46 (by decide +kernel) rfl
theorem wm_114 : Cond.methodLink "CountDesk$Node" 68 ⟨"CountDesk$Node", "bit", "(I)J"⟩ ∈ mTg := tg_in 225 (by decide +kernel) rfl
theorem wm_115 : Cond.methodLink "CountDesk$Node" 97 ⟨"CountDesk$Node", "staysInHead", "()Z"⟩ ∈ mTg := tg_in 226 (by decide +kernel) rfl
theorem wm_116 : Cond.instanceMethod ⟨"CountDesk$Node", "staysInHead", "()Z"⟩ ∈ mTg := tg_in 228 (by decide +kernel) rfl
theorem wm_117 : Cond.selects "CountDesk$Node" ⟨"CountDesk$Node", "staysInHead", "()Z"⟩ ⟨"CountDesk$Node", "staysInHead", "()Z"⟩ ∈ mTg := tg_se 6 (by decide +kernel) rfl
theorem wm_118 : Cond.methodLink "CountDesk$Node" 64 ⟨"CountDesk$Node", "has", "(JI)Z"⟩ ∈ mTg := tg_in 230 (by decide +kernel) rfl
theorem wm_119 : Cond.static ⟨"CountDesk$Node", "has", "(JI)Z"⟩ ∈ mTg := tg_in 231 (by decide +kernel) rfl
theorem wm_120 : Cond.fieldLink "CountDesk$Node" 61 "CountDesk$Node" "kind" "I" ∈ mTg := tg_in 97 (by decide +kernel) rfl
theorem wm_121 : Cond.fieldLink "CountDesk$Arm" 55 "CountDesk$Node" "beside" "LCountDesk$Node;" ∈ mTg := tg_in 115 (by decide +kernel) rfl
theorem wm_122 : Cond.methodLink "CountDesk$Splitter" 49 ⟨"CountDesk$Arm", "findSwitch", "()V"⟩ ∈ mTg := tg_in 241 (by decide +kernel) rfl
theorem wm_123 : Cond.instanceMethod ⟨"CountDesk$Arm", "findSwitch", "()V"⟩ ∈ mTg := tg_in 242 (by decide +kernel) rfl
theorem wm_124 : Cond.selects "CountDesk$Arm" ⟨"CountDesk$Arm", "findSwitch", "()V"⟩ ⟨"CountDesk$Arm", "findSwitch", "()V"⟩ ∈ mTg := tg_in 243 (by decide +kernel) rfl
theorem wm_125 : Cond.fieldLink "CountDesk$Splitter" 52 "CountDesk$Arm" "variable" "I" ∈ mTg := tg_in 41 (by decide +kernel) rfl
theorem wm_126 : Cond.fieldLink "CountDesk$Splitter" 86 "CountDesk$Arm" "first" "LCountDesk$Node;" ∈ mTg := tg_in 36 (by decide +kernel) rfl
theorem wm_127 : Cond.fieldLink "CountDesk$Splitter" 87 "CountDesk$Node" "beside" "LCountDesk$Node;" ∈ mTg := tg_in 116 (by decide +kernel) rfl
theorem wm_128 : Cond.methodLink "CountDesk$Splitter" 90 ⟨"CountDesk$Node", "takeOf", "(I)LCountDesk$Node;"⟩ ∈ mTg := tg_in 255 (by decide +kernel) rfl
theorem wm_129 : Cond.instanceMethod ⟨"CountDesk$Node", "takeOf", "(I)LCountDesk$Node;"⟩ ∈ mTg := tg_in 252 (by decide +kernel) rfl
theorem wm_130 : Cond.selects "CountDesk$Node" ⟨"CountDesk$Node", "takeOf", "(I)LCountDesk$Node;"⟩ ⟨"CountDesk$Node", "takeOf", "(I)LCountDesk$Node;"⟩ ∈ mTg := tg_in 253 (by decide +kernel) rfl
theorem wm_131 : Cond.fieldLink "CountDesk$Splitter" 94 "CountDesk$Node" "tag" "I" ∈ mTg := tg_in 101 (by decide +kernel) rfl
theorem wm_132 : Cond.methodLink "CountDesk$Splitter" 97 ⟨"CountDesk$Splitter", "armFor", "(IILCountDesk$Arm;)LCountDesk$Arm;"⟩ ∈ mTg := tg_in 256 (by decide +kernel) rfl
theorem wm_133 : Cond.instanceMethod ⟨"CountDesk$Splitter", "armFor", "(IILCountDesk$Arm;)LCountDesk$Arm;"⟩ ∈ mTg := tg_in 258 (by decide +kernel) rfl
theorem wm_134 : Cond.selects "CountDesk$Splitter" ⟨"CountDesk$Splitter", "armFor", "(IILCountDesk$Arm;)LCountDesk$Arm;"⟩ ⟨"CountDesk$Splitter", "armFor", "(IILCountDesk$Arm;)LCountDesk$Arm;"⟩ ∈ mTg := tg_se 9 (by decide +kernel) rfl
theorem wm_135 : Cond.fieldLink "CountDesk$Splitter" 101 "CountDesk$Arm" "armCount" "I" ∈ mTg := tg_in 44 (by decide +kernel) rfl
theorem wm_136 : Cond.constantLong "CountDesk$Arm" 58 (-1 : Int64) ∈ mTg := tg_in 245 (by decide +kernel) rfl
theorem wm_137 : Cond.fieldLink "CountDesk$Arm" 60 "CountDesk$Node" "taken" "J" ∈ mTg := tg_in 117 (by decide +kernel) rfl
theorem wm_138 : Cond.methodLink "CountDesk$Arm" 63 ⟨"CountDesk$Node", "has", "(JI)Z"⟩ ∈ mTg := tg_in 246 (by decide +kernel) rfl
theorem wm_139 : Cond.methodLink "CountDesk$Arm" 67 ⟨"CountDesk$Arm", "commonAll", "(I)I"⟩ ∈ mTg := tg_in 247 (by decide +kernel) rfl
theorem wm_140 : Cond.instanceMethod ⟨"CountDesk$Arm", "commonAll", "(I)I"⟩ ∈ mTg := tg_in 249 (by decide +kernel) rfl
theorem wm_141 : Cond.selects "CountDesk$Arm" ⟨"CountDesk$Arm", "commonAll", "(I)I"⟩ ⟨"CountDesk$Arm", "commonAll", "(I)I"⟩ ∈ mTg := tg_se 8 (by decide +kernel) rfl
theorem wm_142 : Cond.methodLink "CountDesk$Arm" 71 ⟨"CountDesk$Node", "takeOf", "(I)LCountDesk$Node;"⟩ ∈ mTg := tg_in 251 (by decide +kernel) rfl
theorem wm_143 : Cond.fieldLink "CountDesk$Arm" 75 "CountDesk$Node" "all" "I" ∈ mTg := tg_in 104 (by decide +kernel) rfl
theorem wm_144 : Cond.methodLink "CountDesk$Splitter" 55 ⟨"CountDesk$Splitter", "openedFor", "(II)LCountDesk$Arm;"⟩ ∈ mTg := tg_in 260 (by decide +kernel) rfl
theorem wm_145 : Cond.instanceMethod ⟨"CountDesk$Splitter", "openedFor", "(II)LCountDesk$Arm;"⟩ ∈ mTg := tg_in 262 (by decide +kernel) rfl
theorem wm_146 : Cond.selects "CountDesk$Splitter" ⟨"CountDesk$Splitter", "openedFor", "(II)LCountDesk$Arm;"⟩ ⟨"CountDesk$Splitter", "openedFor", "(II)LCountDesk$Arm;"⟩ ∈ mTg := tg_se 10 (by decide +kernel) rfl
theorem wm_147 : Cond.fieldLink "CountDesk$Splitter" 104 "CountDesk$Arm" "tag" "I" ∈ mTg := tg_in 33 (by decide +kernel) rfl
theorem wm_148 : Cond.initialized "CountDesk$Kinds" ∈ mTg := tg_in 6 (by decide +kernel) rfl
theorem wm_149 : Cond.methodLink "CountDesk$Arm" 91 ⟨"CountDesk$Kinds", "of", "(ZI)I"⟩ ∈ mTg := tg_in 272 (by decide +kernel) rfl
theorem wm_150 : Cond.static ⟨"CountDesk$Kinds", "of", "(ZI)I"⟩ ∈ mTg := tg_in 273 (by decide +kernel) rfl
theorem wm_151 : Cond.methodLink "CountDesk$Arm" 95 ⟨"CountDesk$Node", "kindKnowing", "(J)I"⟩ ∈ mTg := tg_in 275 (by decide +kernel) rfl
theorem wm_152 : Cond.instanceMethod ⟨"CountDesk$Node", "kindKnowing", "(J)I"⟩ ∈ mTg := tg_in 276 (by decide +kernel) rfl
theorem wm_153 : Cond.selects "CountDesk$Node" ⟨"CountDesk$Node", "kindKnowing", "(J)I"⟩ ⟨"CountDesk$Node", "kindKnowing", "(J)I"⟩ ∈ mTg := tg_in 277 (by decide +kernel) rfl
theorem wm_154 : Cond.methodLink "CountDesk$Arm" 76 ⟨"CountDesk$Kinds", "canFail", "(I)Z"⟩ ∈ mTg := tg_in 294 (by decide +kernel) rfl
theorem wm_155 : Cond.static ⟨"CountDesk$Kinds", "canFail", "(I)Z"⟩ ∈ mTg := tg_in 285 (by decide +kernel) rfl
theorem wm_156 : Cond.methodLink "CountDesk$Arm" 82 ⟨"CountDesk$Kinds", "most", "(I)I"⟩ ∈ mTg := tg_in 295 (by decide +kernel) rfl
theorem wm_157 : Cond.static ⟨"CountDesk$Kinds", "most", "(I)I"⟩ ∈ mTg := tg_in 288 (by decide +kernel) rfl
theorem wm_158 : Cond.methodLink "CountDesk$Arm" 99 ⟨"CountDesk$Kinds", "capped", "(I)I"⟩ ∈ mTg := tg_in 296 (by decide +kernel) rfl
theorem wm_159 : Cond.static ⟨"CountDesk$Kinds", "capped", "(I)I"⟩ ∈ mTg := tg_in 291 (by decide +kernel) rfl
theorem wm_160 : Cond.methodLink "CountDesk$Node" 50 ⟨"CountDesk$Node", "rowKind", "(J)I"⟩ ∈ mTg := tg_in 279 (by decide +kernel) rfl
theorem wm_161 : Cond.instanceMethod ⟨"CountDesk$Node", "rowKind", "(J)I"⟩ ∈ mTg := tg_in 281 (by decide +kernel) rfl
theorem wm_162 : Cond.selects "CountDesk$Node" ⟨"CountDesk$Node", "rowKind", "(J)I"⟩ ⟨"CountDesk$Node", "rowKind", "(J)I"⟩ ∈ mTg := tg_se 12 (by decide +kernel) rfl
theorem wm_163 : Cond.constantLong "CountDesk$Node" 72 (-1 : Int64) ∈ mTg := tg_in 283 (by decide +kernel) rfl
theorem wm_164 : Cond.methodLink "CountDesk$Node" 74 ⟨"CountDesk$Kinds", "canFail", "(I)Z"⟩ ∈ mTg := tg_in 284 (by decide +kernel) rfl
theorem wm_165 : Cond.methodLink "CountDesk$Node" 80 ⟨"CountDesk$Kinds", "most", "(I)I"⟩ ∈ mTg := tg_in 287 (by decide +kernel) rfl
theorem wm_166 : Cond.methodLink "CountDesk$Node" 84 ⟨"CountDesk$Kinds", "capped", "(I)I"⟩ ∈ mTg := tg_in 290 (by decide +kernel) rfl
theorem wm_167 : Cond.methodLink "CountDesk$Node" 87 ⟨"CountDesk$Kinds", "of", "(ZI)I"⟩ ∈ mTg := tg_in 293 (by decide +kernel) rfl
theorem wm_168 : Cond.methodLink "CountDesk$Arm" 85 Lib.Math.max.name ∈ mTg := tg_in 301 (by decide +kernel) rfl
theorem wm_169 : Cond.static Lib.Math.max.name ∈ mTg := tg_in 302 (by decide +kernel) rfl
theorem wm_170 : Cond.initialized "java/lang/Math" ∈ mTg := tg_in 7 (by decide +kernel) rfl
theorem wm_171 : Cond.code Lib.Math.max.name Lib.Math.max.code 2 (some .int) ∈ mTg := tg_in 303 (by rfl) rfl
theorem wm_172 : Cond.methodLink "CountDesk$Node" 54 ⟨"CountDesk$Node", "notKind", "()I"⟩ ∈ mTg := tg_in 308 (by decide +kernel) rfl
theorem wm_173 : Cond.instanceMethod ⟨"CountDesk$Node", "notKind", "()I"⟩ ∈ mTg := tg_in 310 (by decide +kernel) rfl
theorem wm_174 : Cond.selects "CountDesk$Node" ⟨"CountDesk$Node", "notKind", "()I"⟩ ⟨"CountDesk$Node", "notKind", "()I"⟩ ∈ mTg := tg_se 13 (by decide +kernel) rfl
theorem wm_175 : Cond.methodLink "CountDesk$Node" 58 ⟨"CountDesk$Node", "testKind", "()I"⟩ ∈ mTg := tg_in 312 (by decide +kernel) rfl
theorem wm_176 : Cond.instanceMethod ⟨"CountDesk$Node", "testKind", "()I"⟩ ∈ mTg := tg_in 314 (by decide +kernel) rfl
theorem wm_177 : Cond.selects "CountDesk$Node" ⟨"CountDesk$Node", "testKind", "()I"⟩ ⟨"CountDesk$Node", "testKind", "()I"⟩ ∈ mTg := tg_se 14 (by decide +kernel) rfl
theorem wm_178 : Cond.methodLink "CountDesk$Node" 91 Lib.Math.max.name ∈ mTg := tg_in 316 (by decide +kernel) rfl
theorem wm_179 : Cond.methodLink "CountDesk" 59 ⟨"CountDesk", "isConstructor", "(II)Z"⟩ ∈ mTg := tg_in 325 (by decide +kernel) rfl
theorem wm_180 : Cond.static ⟨"CountDesk", "isConstructor", "(II)Z"⟩ ∈ mTg := tg_in 326 (by decide +kernel) rfl
theorem wm_181 : Cond.fieldLink "CountDesk" 63 "CountDesk$Node" "variable" "I" ∈ mTg := tg_in 99 (by decide +kernel) rfl
theorem wm_182 : Cond.fieldLink "CountDesk" 66 "CountDesk$Node" "tag" "I" ∈ mTg := tg_in 102 (by decide +kernel) rfl
theorem wm_183 : Cond.fieldLink "CountDesk" 69 "CountDesk$Node" "all" "I" ∈ mTg := tg_in 105 (by decide +kernel) rfl
theorem wm_184 : Cond.methodLink "CountDesk" 78 ⟨"CountDesk$Splitter", "variableOf", "(LCountDesk$Node;)I"⟩ ∈ mTg := tg_in 336 (by decide +kernel) rfl
theorem wm_185 : Cond.instanceMethod ⟨"CountDesk$Splitter", "variableOf", "(LCountDesk$Node;)I"⟩ ∈ mTg := tg_in 337 (by decide +kernel) rfl
theorem wm_186 : Cond.selects "CountDesk$Splitter" ⟨"CountDesk$Splitter", "variableOf", "(LCountDesk$Node;)I"⟩ ⟨"CountDesk$Splitter", "variableOf", "(LCountDesk$Node;)I"⟩ ∈ mTg := tg_in 338 (by decide +kernel) rfl
theorem wm_187 : Cond.methodLink "CountDesk" 82 ⟨"CountDesk$Splitter", "armsOf", "(LCountDesk$Node;I)I"⟩ ∈ mTg := tg_in 344 (by decide +kernel) rfl
theorem wm_188 : Cond.instanceMethod ⟨"CountDesk$Splitter", "armsOf", "(LCountDesk$Node;I)I"⟩ ∈ mTg := tg_in 345 (by decide +kernel) rfl
theorem wm_189 : Cond.selects "CountDesk$Splitter" ⟨"CountDesk$Splitter", "armsOf", "(LCountDesk$Node;I)I"⟩ ⟨"CountDesk$Splitter", "armsOf", "(LCountDesk$Node;I)I"⟩ ∈ mTg := tg_in 346 (by decide +kernel) rfl
theorem wm_190 : Cond.fieldLink "CountDesk$Splitter" 59 "CountDesk$Arm" "size" "I" ∈ mTg := tg_in 39 (by decide +kernel) rfl
theorem wm_191 : Cond.methodLink "CountDesk" 86 ⟨"CountDesk", "kind", "(I)I"⟩ ∈ mTg := tg_in 352 (by decide +kernel) rfl
theorem wm_192 : Cond.instanceMethod ⟨"CountDesk", "kind", "(I)I"⟩ ∈ mTg := tg_in 329 (by decide +kernel) rfl
theorem wm_193 : Cond.selects "CountDesk" ⟨"CountDesk", "kind", "(I)I"⟩ ⟨"CountDesk", "kind", "(I)I"⟩ ∈ mTg := tg_in 330 (by decide +kernel) rfl
theorem wm_194 : Cond.methodLink "CountDesk" 89 ⟨"CountDesk$Kinds", "canFail", "(I)Z"⟩ ∈ mTg := tg_in 353 (by decide +kernel) rfl
theorem wm_195 : Cond.methodLink "CountDesk" 94 ⟨"CountDesk$Kinds", "most", "(I)I"⟩ ∈ mTg := tg_in 354 (by decide +kernel) rfl
theorem wm_196 : Cond.fieldLink "CountDesk" 97 "CountDesk$Node" "partCount" "I" ∈ mTg := tg_in 107 (by decide +kernel) rfl
theorem wm_197 : Cond.methodLink "CountDesk" 100 ⟨"CountDesk$Node", "partNumber", "(I)I"⟩ ∈ mTg := tg_in 359 (by decide +kernel) rfl
theorem wm_198 : Cond.instanceMethod ⟨"CountDesk$Node", "partNumber", "(I)I"⟩ ∈ mTg := tg_in 360 (by decide +kernel) rfl
theorem wm_199 : Cond.selects "CountDesk$Node" ⟨"CountDesk$Node", "partNumber", "(I)I"⟩ ⟨"CountDesk$Node", "partNumber", "(I)I"⟩ ∈ mTg := tg_in 361 (by decide +kernel) rfl
theorem wm_200 : Cond.fieldLink "CountDesk$Node" 47 "CountDesk$Node" "number" "I" ∈ mTg := tg_in 93 (by decide +kernel) rfl
theorem wm_201 : Cond.methodLink "CountDeskModel" 1 Lib.objectInit ∈ mTg := tg_in 368 (by decide +kernel) rfl
theorem wm_202 : Cond.arrayClass .int ∈ mTg := tg_in 465 (by decide +kernel) rfl
theorem wm_203 : Cond.fieldLink "CountDeskModel" 7 "CountDeskModel" "sort" "[I" ∈ mTg := tg_in 379 (by decide +kernel) rfl
theorem wm_204 : Cond.fieldLink "CountDeskModel" 13 "CountDeskModel" "depth" "[I" ∈ mTg := tg_in 380 (by decide +kernel) rfl
theorem wm_205 : Cond.fieldLink "CountDeskModel" 16 "CountDeskModel" "many" "[I" ∈ mTg := tg_in 381 (by decide +kernel) rfl
theorem wm_206 : Cond.fieldLink "CountDeskModel" 19 "CountDeskModel" "first" "[I" ∈ mTg := tg_in 382 (by decide +kernel) rfl
theorem wm_207 : Cond.fieldLink "CountDeskModel" 22 "CountDeskModel" "last" "[I" ∈ mTg := tg_in 383 (by decide +kernel) rfl
theorem wm_208 : Cond.fieldLink "CountDeskModel" 25 "CountDeskModel" "next" "[I" ∈ mTg := tg_in 384 (by decide +kernel) rfl
theorem wm_209 : Cond.fieldLink "CountDeskModel" 28 "CountDeskModel" "value" "[I" ∈ mTg := tg_in 385 (by decide +kernel) rfl
theorem wm_210 : Cond.fieldLink "CountDeskModel" 31 "CountDeskModel" "tag" "[I" ∈ mTg := tg_in 386 (by decide +kernel) rfl
theorem wm_211 : Cond.fieldLink "CountDeskModel" 34 "CountDeskModel" "all" "[I" ∈ mTg := tg_in 387 (by decide +kernel) rfl
theorem wm_212 : Cond.arrayClass .long ∈ mTg := tg_in 466 (by decide +kernel) rfl
theorem wm_213 : Cond.fieldLink "CountDeskModel" 37 "CountDeskModel" "makes" "[J" ∈ mTg := tg_in 388 (by decide +kernel) rfl
theorem wm_214 : Cond.fieldLink "CountDeskModel" 41 "CountDeskModel" "sure" "[I" ∈ mTg := tg_in 391 (by decide +kernel) rfl
theorem wm_215 : Cond.fieldLink "CountDeskModel" 44 "CountDeskModel" "asked" "[I" ∈ mTg := tg_in 392 (by decide +kernel) rfl
theorem wm_216 : Cond.fieldLink "CountDeskModel" 47 "CountDeskModel" "step" "[I" ∈ mTg := tg_in 393 (by decide +kernel) rfl
theorem wm_217 : Cond.fieldLink "CountDeskModel" 50 "CountDeskModel" "from" "[I" ∈ mTg := tg_in 394 (by decide +kernel) rfl
theorem wm_218 : Cond.fieldLink "CountDeskModel" 53 "CountDeskModel" "size" "[I" ∈ mTg := tg_in 395 (by decide +kernel) rfl
theorem wm_219 : Cond.fieldLink "CountDeskModel" 56 "CountDeskModel" "without" "[J" ∈ mTg := tg_in 396 (by decide +kernel) rfl
theorem wm_220 : Cond.fieldLink "CountDeskModel" 59 "CountDeskModel" "on" "[I" ∈ mTg := tg_in 397 (by decide +kernel) rfl
theorem wm_221 : Cond.fieldLink "CountDeskModel" 62 "CountDeskModel" "low" "[I" ∈ mTg := tg_in 398 (by decide +kernel) rfl
theorem wm_222 : Cond.fieldLink "CountDeskModel" 65 "CountDeskModel" "high" "[I" ∈ mTg := tg_in 399 (by decide +kernel) rfl
theorem wm_223 : Cond.fieldLink "CountDeskModel" 68 "CountDeskModel" "sum" "[I" ∈ mTg := tg_in 400 (by decide +kernel) rfl
theorem wm_224 : Cond.fieldLink "CountDeskModel" 71 "CountDeskModel" "part" "[I" ∈ mTg := tg_in 402 (by decide +kernel) rfl
theorem wm_225 : Cond.initialized "CountDeskModel" ∈ mTg := tg_in 5 (by decide +kernel) rfl
theorem wm_226 : Cond.methodLink "CountDeskModel" 74 ⟨"CountDeskModel", "begin", "()V"⟩ ∈ mTg := tg_in 369 (by decide +kernel) rfl
theorem wm_227 : Cond.instanceMethod ⟨"CountDeskModel", "begin", "()V"⟩ ∈ mTg := tg_in 371 (by decide +kernel) rfl
theorem wm_228 : Cond.selects "CountDeskModel" ⟨"CountDeskModel", "begin", "()V"⟩ ⟨"CountDeskModel", "begin", "()V"⟩ ∈ mTg := tg_se 15 (by decide +kernel) rfl
theorem wm_229 : Cond.fieldLink "CountDeskModel" 81 "CountDeskModel" "nodes" "I" ∈ mTg := tg_in 378 (by decide +kernel) rfl
theorem wm_230 : Cond.fieldLink "CountDeskModel" 84 "CountDeskModel" "row" "J" ∈ mTg := tg_in 389 (by decide +kernel) rfl
theorem wm_231 : Cond.fieldLink "CountDeskModel" 88 "CountDeskModel" "rowMany" "I" ∈ mTg := tg_in 390 (by decide +kernel) rfl
theorem wm_232 : Cond.methodLink "CountDeskModel" 91 ⟨"CountDeskModel", "made", "(II)I"⟩ ∈ mTg := tg_in 373 (by decide +kernel) rfl
theorem wm_233 : Cond.instanceMethod ⟨"CountDeskModel", "made", "(II)I"⟩ ∈ mTg := tg_in 375 (by decide +kernel) rfl
theorem wm_234 : Cond.selects "CountDeskModel" ⟨"CountDeskModel", "made", "(II)I"⟩ ⟨"CountDeskModel", "made", "(II)I"⟩ ∈ mTg := tg_se 16 (by decide +kernel) rfl
theorem wm_235 : Cond.fieldLink "CountDeskModel" 77 "CountDeskModel" "thrown" "I" ∈ mTg := tg_in 377 (by decide +kernel) rfl
theorem wm_236 : Cond.methodLink "CountDeskModel" 99 ⟨"CountDeskModel", "emptyRow", "()V"⟩ ∈ mTg := tg_in 479 (by decide +kernel) rfl
theorem wm_237 : Cond.instanceMethod ⟨"CountDeskModel", "emptyRow", "()V"⟩ ∈ mTg := tg_in 481 (by decide +kernel) rfl
theorem wm_238 : Cond.selects "CountDeskModel" ⟨"CountDeskModel", "emptyRow", "()V"⟩ ⟨"CountDeskModel", "emptyRow", "()V"⟩ ∈ mTg := tg_se 17 (by decide +kernel) rfl
theorem wm_239 : Cond.methodLink "CountDeskModel" 102 ⟨"CountDeskModel", "isParent", "(I)Z"⟩ ∈ mTg := tg_in 483 (by decide +kernel) rfl
theorem wm_240 : Cond.instanceMethod ⟨"CountDeskModel", "isParent", "(I)Z"⟩ ∈ mTg := tg_in 485 (by decide +kernel) rfl
theorem wm_241 : Cond.selects "CountDeskModel" ⟨"CountDeskModel", "isParent", "(I)Z"⟩ ⟨"CountDeskModel", "isParent", "(I)Z"⟩ ∈ mTg := tg_se 18 (by decide +kernel) rfl
theorem wm_242 : Cond.methodLink "CountDeskModel" 95 ⟨"CountDeskModel", "isNode", "(I)Z"⟩ ∈ mTg := tg_in 487 (by decide +kernel) rfl
theorem wm_243 : Cond.instanceMethod ⟨"CountDeskModel", "isNode", "(I)Z"⟩ ∈ mTg := tg_in 489 (by decide +kernel) rfl
theorem wm_244 : Cond.selects "CountDeskModel" ⟨"CountDeskModel", "isNode", "(I)Z"⟩ ⟨"CountDeskModel", "isNode", "(I)Z"⟩ ∈ mTg := tg_se 19 (by decide +kernel) rfl
theorem wm_245 : Cond.methodLink "CountDeskModel" 189 ⟨"CountDeskModel", "worked", "(I)I"⟩ ∈ mTg := tg_in 503 (by decide +kernel) rfl
theorem wm_246 : Cond.instanceMethod ⟨"CountDeskModel", "worked", "(I)I"⟩ ∈ mTg := tg_in 505 (by decide +kernel) rfl
theorem wm_247 : Cond.selects "CountDeskModel" ⟨"CountDeskModel", "worked", "(I)I"⟩ ⟨"CountDeskModel", "worked", "(I)I"⟩ ∈ mTg := tg_se 20 (by decide +kernel) rfl
theorem wm_248 : Cond.fieldLink "CountDeskModel" 129 "CountDeskModel" "frames" "I" ∈ mTg := tg_in 401 (by decide +kernel) rfl
theorem wm_249 : Cond.fieldLink "CountDeskModel" 126 "CountDeskModel" "parts" "I" ∈ mTg := tg_in 403 (by decide +kernel) rfl
theorem wm_250 : Cond.methodLink "CountDeskModel" 135 ⟨"CountDeskModel", "push", "(IIIJ)V"⟩ ∈ mTg := tg_in 507 (by decide +kernel) rfl
theorem wm_251 : Cond.instanceMethod ⟨"CountDeskModel", "push", "(IIIJ)V"⟩ ∈ mTg := tg_in 509 (by decide +kernel) rfl
theorem wm_252 : Cond.selects "CountDeskModel" ⟨"CountDeskModel", "push", "(IIIJ)V"⟩ ⟨"CountDeskModel", "push", "(IIIJ)V"⟩ ∈ mTg := tg_se 21 (by decide +kernel) rfl
theorem wm_253 : Cond.methodLink "CountDeskModel" 139 ⟨"CountDeskModel", "choice", "(I)V"⟩ ∈ mTg := tg_in 511 (by decide +kernel) rfl
theorem wm_254 : Cond.instanceMethod ⟨"CountDeskModel", "choice", "(I)V"⟩ ∈ mTg := tg_in 513 (by decide +kernel) rfl
theorem wm_255 : Cond.selects "CountDeskModel" ⟨"CountDeskModel", "choice", "(I)V"⟩ ⟨"CountDeskModel", "choice", "(I)V"⟩ ∈ mTg := tg_se 22 (by decide +kernel) rfl
theorem wm_256 : Cond.methodLink "CountDeskModel" 143 ⟨"CountDeskModel", "ask", "(I)V"⟩ ∈ mTg := tg_in 568 (by decide +kernel) rfl
theorem wm_257 : Cond.instanceMethod ⟨"CountDeskModel", "ask", "(I)V"⟩ ∈ mTg := tg_in 570 (by decide +kernel) rfl
theorem wm_258 : Cond.selects "CountDeskModel" ⟨"CountDeskModel", "ask", "(I)V"⟩ ⟨"CountDeskModel", "ask", "(I)V"⟩ ∈ mTg := tg_se 34 (by decide +kernel) rfl
theorem wm_259 : Cond.fieldLink "CountDeskModel" 132 "CountDeskModel" "answer" "I" ∈ mTg := tg_in 404 (by decide +kernel) rfl
theorem wm_260 : Cond.methodLink "CountDeskModel" 146 ⟨"CountDeskModel", "pop", "(I)V"⟩ ∈ mTg := tg_in 515 (by decide +kernel) rfl
theorem wm_261 : Cond.instanceMethod ⟨"CountDeskModel", "pop", "(I)V"⟩ ∈ mTg := tg_in 517 (by decide +kernel) rfl
theorem wm_262 : Cond.selects "CountDeskModel" ⟨"CountDeskModel", "pop", "(I)V"⟩ ⟨"CountDeskModel", "pop", "(I)V"⟩ ∈ mTg := tg_se 23 (by decide +kernel) rfl
theorem wm_263 : Cond.methodLink "CountDeskModel" 160 ⟨"CountDeskModel", "switchOf", "(IIJ)I"⟩ ∈ mTg := tg_in 519 (by decide +kernel) rfl
theorem wm_264 : Cond.instanceMethod ⟨"CountDeskModel", "switchOf", "(IIJ)I"⟩ ∈ mTg := tg_in 521 (by decide +kernel) rfl
theorem wm_265 : Cond.selects "CountDeskModel" ⟨"CountDeskModel", "switchOf", "(IIJ)I"⟩ ⟨"CountDeskModel", "switchOf", "(IIJ)I"⟩ ∈ mTg := tg_se 24 (by decide +kernel) rfl
theorem wm_266 : Cond.methodLink "CountDeskModel" 164 ⟨"CountDeskModel", "mark", "(II)V"⟩ ∈ mTg := tg_in 531 (by decide +kernel) rfl
theorem wm_267 : Cond.instanceMethod ⟨"CountDeskModel", "mark", "(II)V"⟩ ∈ mTg := tg_in 533 (by decide +kernel) rfl
theorem wm_268 : Cond.selects "CountDeskModel" ⟨"CountDeskModel", "mark", "(II)V"⟩ ⟨"CountDeskModel", "mark", "(II)V"⟩ ∈ mTg := tg_se 27 (by decide +kernel) rfl
theorem wm_269 : Cond.methodLink "CountDeskModel" 167 ⟨"CountDeskModel", "plainAnswer", "(I)V"⟩ ∈ mTg := tg_in 535 (by decide +kernel) rfl
theorem wm_270 : Cond.instanceMethod ⟨"CountDeskModel", "plainAnswer", "(I)V"⟩ ∈ mTg := tg_in 537 (by decide +kernel) rfl
theorem wm_271 : Cond.selects "CountDeskModel" ⟨"CountDeskModel", "plainAnswer", "(I)V"⟩ ⟨"CountDeskModel", "plainAnswer", "(I)V"⟩ ∈ mTg := tg_se 28 (by decide +kernel) rfl
theorem wm_272 : Cond.methodLink "CountDeskModel" 170 ⟨"CountDeskModel", "armAnswer", "(I)V"⟩ ∈ mTg := tg_in 545 (by decide +kernel) rfl
theorem wm_273 : Cond.instanceMethod ⟨"CountDeskModel", "armAnswer", "(I)V"⟩ ∈ mTg := tg_in 547 (by decide +kernel) rfl
theorem wm_274 : Cond.selects "CountDeskModel" ⟨"CountDeskModel", "armAnswer", "(I)V"⟩ ⟨"CountDeskModel", "armAnswer", "(I)V"⟩ ∈ mTg := tg_se 29 (by decide +kernel) rfl
theorem wm_275 : Cond.methodLink "CountDeskModel" 173 ⟨"CountDeskModel", "plainNext", "(I)V"⟩ ∈ mTg := tg_in 549 (by decide +kernel) rfl
theorem wm_276 : Cond.instanceMethod ⟨"CountDeskModel", "plainNext", "(I)V"⟩ ∈ mTg := tg_in 551 (by decide +kernel) rfl
theorem wm_277 : Cond.selects "CountDeskModel" ⟨"CountDeskModel", "plainNext", "(I)V"⟩ ⟨"CountDeskModel", "plainNext", "(I)V"⟩ ∈ mTg := tg_se 30 (by decide +kernel) rfl
theorem wm_278 : Cond.methodLink "CountDeskModel" 176 ⟨"CountDeskModel", "armNext", "(I)V"⟩ ∈ mTg := tg_in 556 (by decide +kernel) rfl
theorem wm_279 : Cond.instanceMethod ⟨"CountDeskModel", "armNext", "(I)V"⟩ ∈ mTg := tg_in 558 (by decide +kernel) rfl
theorem wm_280 : Cond.selects "CountDeskModel" ⟨"CountDeskModel", "armNext", "(I)V"⟩ ⟨"CountDeskModel", "armNext", "(I)V"⟩ ∈ mTg := tg_se 31 (by decide +kernel) rfl
theorem wm_281 : Cond.methodLink "CountDeskModel" 122 ⟨"CountDeskModel", "isSwitch", "(III)Z"⟩ ∈ mTg := tg_in 523 (by decide +kernel) rfl
theorem wm_282 : Cond.instanceMethod ⟨"CountDeskModel", "isSwitch", "(III)Z"⟩ ∈ mTg := tg_in 525 (by decide +kernel) rfl
theorem wm_283 : Cond.selects "CountDeskModel" ⟨"CountDeskModel", "isSwitch", "(III)Z"⟩ ⟨"CountDeskModel", "isSwitch", "(III)Z"⟩ ∈ mTg := tg_se 25 (by decide +kernel) rfl
theorem wm_284 : Cond.methodLink "CountDeskModel" 119 ⟨"CountDeskModel", "taking", "(II)I"⟩ ∈ mTg := tg_in 527 (by decide +kernel) rfl
theorem wm_285 : Cond.instanceMethod ⟨"CountDeskModel", "taking", "(II)I"⟩ ∈ mTg := tg_in 529 (by decide +kernel) rfl
theorem wm_286 : Cond.selects "CountDeskModel" ⟨"CountDeskModel", "taking", "(II)I"⟩ ⟨"CountDeskModel", "taking", "(II)I"⟩ ∈ mTg := tg_se 26 (by decide +kernel) rfl
theorem wm_287 : Cond.methodLink "CountDeskModel" 109 ⟨"CountDeskModel", "canFail", "(I)Z"⟩ ∈ mTg := tg_in 539 (by decide +kernel) rfl
theorem wm_288 : Cond.static ⟨"CountDeskModel", "canFail", "(I)Z"⟩ ∈ mTg := tg_in 540 (by decide +kernel) rfl
theorem wm_289 : Cond.methodLink "CountDeskModel" 105 ⟨"CountDeskModel", "most", "(I)I"⟩ ∈ mTg := tg_in 542 (by decide +kernel) rfl
theorem wm_290 : Cond.static ⟨"CountDeskModel", "most", "(I)I"⟩ ∈ mTg := tg_in 543 (by decide +kernel) rfl
theorem wm_291 : Cond.methodLink "CountDeskModel" 112 ⟨"CountDeskModel", "kindOf", "(ZI)I"⟩ ∈ mTg := tg_in 553 (by decide +kernel) rfl
theorem wm_292 : Cond.static ⟨"CountDeskModel", "kindOf", "(ZI)I"⟩ ∈ mTg := tg_in 554 (by decide +kernel) rfl
theorem wm_293 : Cond.methodLink "CountDeskModel" 182 ⟨"CountDeskModel", "isFirst", "(II)Z"⟩ ∈ mTg := tg_in 560 (by decide +kernel) rfl
theorem wm_294 : Cond.instanceMethod ⟨"CountDeskModel", "isFirst", "(II)Z"⟩ ∈ mTg := tg_in 562 (by decide +kernel) rfl
theorem wm_295 : Cond.selects "CountDeskModel" ⟨"CountDeskModel", "isFirst", "(II)Z"⟩ ⟨"CountDeskModel", "isFirst", "(II)Z"⟩ ∈ mTg := tg_se 32 (by decide +kernel) rfl
theorem wm_296 : Cond.methodLink "CountDeskModel" 179 ⟨"CountDeskModel", "tagOf", "(II)I"⟩ ∈ mTg := tg_in 564 (by decide +kernel) rfl
theorem wm_297 : Cond.instanceMethod ⟨"CountDeskModel", "tagOf", "(II)I"⟩ ∈ mTg := tg_in 566 (by decide +kernel) rfl
theorem wm_298 : Cond.selects "CountDeskModel" ⟨"CountDeskModel", "tagOf", "(II)I"⟩ ⟨"CountDeskModel", "tagOf", "(II)I"⟩ ∈ mTg := tg_se 33 (by decide +kernel) rfl
theorem wm_299 : Cond.fieldLink "CountDeskModel" 186 "CountDeskModel" "armFrom" "I" ∈ mTg := tg_in 405 (by decide +kernel) rfl
theorem wm_300 : Cond.methodLink "CountDeskModel" 149 ⟨"CountDeskModel", "listed", "(I)I"⟩ ∈ mTg := tg_in 572 (by decide +kernel) rfl
theorem wm_301 : Cond.instanceMethod ⟨"CountDeskModel", "listed", "(I)I"⟩ ∈ mTg := tg_in 574 (by decide +kernel) rfl
theorem wm_302 : Cond.selects "CountDeskModel" ⟨"CountDeskModel", "listed", "(I)I"⟩ ⟨"CountDeskModel", "listed", "(I)I"⟩ ∈ mTg := tg_se 35 (by decide +kernel) rfl
theorem wm_303 : Cond.methodLink "CountDeskModel" 152 ⟨"CountDeskModel", "several", "(II)V"⟩ ∈ mTg := tg_in 576 (by decide +kernel) rfl
theorem wm_304 : Cond.instanceMethod ⟨"CountDeskModel", "several", "(II)V"⟩ ∈ mTg := tg_in 578 (by decide +kernel) rfl
theorem wm_305 : Cond.selects "CountDeskModel" ⟨"CountDeskModel", "several", "(II)V"⟩ ⟨"CountDeskModel", "several", "(II)V"⟩ ∈ mTg := tg_se 36 (by decide +kernel) rfl
theorem wm_306 : Cond.methodLink "CountDeskModel" 116 ⟨"CountDeskModel", "both", "(II)I"⟩ ∈ mTg := tg_in 580 (by decide +kernel) rfl
theorem wm_307 : Cond.static ⟨"CountDeskModel", "both", "(II)I"⟩ ∈ mTg := tg_in 581 (by decide +kernel) rfl
theorem wm_308 : Cond.methodLink "CountDeskModel" 156 ⟨"CountDeskModel", "tested", "(III)I"⟩ ∈ mTg := tg_in 583 (by decide +kernel) rfl
theorem wm_309 : Cond.static ⟨"CountDeskModel", "tested", "(III)I"⟩ ∈ mTg := tg_in 584 (by decide +kernel) rfl
theorem wm_310 : Cond.methodLink "CountDeskModel" 192 ⟨"CountDeskModel", "switches", "(I)I"⟩ ∈ mTg := tg_in 594 (by decide +kernel) rfl
theorem wm_311 : Cond.instanceMethod ⟨"CountDeskModel", "switches", "(I)I"⟩ ∈ mTg := tg_in 587 (by decide +kernel) rfl
theorem wm_312 : Cond.selects "CountDeskModel" ⟨"CountDeskModel", "switches", "(I)I"⟩ ⟨"CountDeskModel", "switches", "(I)I"⟩ ∈ mTg := tg_in 588 (by decide +kernel) rfl
theorem wm_313 : Cond.classLink "CountDeskLaw" 7 "CountDesk" ∈ mTg := tg_in 8 (by decide +kernel) rfl
theorem wm_314 : Cond.instantiable "CountDesk" 5 ∈ mTg := tg_in 9 (by decide +kernel) rfl
theorem wm_315 : Cond.methodLink "CountDeskLaw" 9 ⟨"CountDesk", "<init>", "()V"⟩ ∈ mTg := tg_in 10 (by decide +kernel) rfl
theorem wm_316 : Cond.instanceMethod ⟨"CountDesk", "<init>", "()V"⟩ ∈ mTg := tg_in 11 (by decide +kernel) rfl
theorem wm_317 : Cond.classLink "CountDeskLaw" 10 "CountDeskModel" ∈ mTg := tg_in 363 (by decide +kernel) rfl
theorem wm_318 : Cond.instantiable "CountDeskModel" 29 ∈ mTg := tg_in 364 (by decide +kernel) rfl
theorem wm_319 : Cond.methodLink "CountDeskLaw" 12 ⟨"CountDeskModel", "<init>", "()V"⟩ ∈ mTg := tg_in 365 (by decide +kernel) rfl
theorem wm_320 : Cond.instanceMethod ⟨"CountDeskModel", "<init>", "()V"⟩ ∈ mTg := tg_in 366 (by decide +kernel) rfl
theorem wm_321 : Cond.methodLink "CountDeskLaw" 13 ⟨"CountDesk", "clear", "()V"⟩ ∈ mTg := tg_in 170 (by decide +kernel) rfl
theorem wm_322 : Cond.instanceMethod ⟨"CountDesk", "clear", "()V"⟩ ∈ mTg := tg_in 171 (by decide +kernel) rfl
theorem wm_323 : Cond.selects "CountDesk" ⟨"CountDesk", "clear", "()V"⟩ ⟨"CountDesk", "clear", "()V"⟩ ∈ mTg := tg_in 172 (by decide +kernel) rfl
theorem wm_324 : Cond.methodLink "CountDeskLaw" 16 ⟨"CountDeskModel", "clear", "()V"⟩ ∈ mTg := tg_in 467 (by decide +kernel) rfl
theorem wm_325 : Cond.instanceMethod ⟨"CountDeskModel", "clear", "()V"⟩ ∈ mTg := tg_in 468 (by decide +kernel) rfl
theorem wm_326 : Cond.selects "CountDeskModel" ⟨"CountDeskModel", "clear", "()V"⟩ ⟨"CountDeskModel", "clear", "()V"⟩ ∈ mTg := tg_in 469 (by decide +kernel) rfl
theorem wm_327 : Cond.methodLink "CountDeskLaw" 17 ⟨"CountDesk", "put", "(I)Z"⟩ ∈ mTg := tg_in 174 (by decide +kernel) rfl
theorem wm_328 : Cond.instanceMethod ⟨"CountDesk", "put", "(I)Z"⟩ ∈ mTg := tg_in 175 (by decide +kernel) rfl
theorem wm_329 : Cond.selects "CountDesk" ⟨"CountDesk", "put", "(I)Z"⟩ ⟨"CountDesk", "put", "(I)Z"⟩ ∈ mTg := tg_in 176 (by decide +kernel) rfl
theorem wm_330 : Cond.methodLink "CountDeskLaw" 21 ⟨"CountDeskModel", "put", "(I)Z"⟩ ∈ mTg := tg_in 471 (by decide +kernel) rfl
theorem wm_331 : Cond.instanceMethod ⟨"CountDeskModel", "put", "(I)Z"⟩ ∈ mTg := tg_in 472 (by decide +kernel) rfl
theorem wm_332 : Cond.selects "CountDeskModel" ⟨"CountDeskModel", "put", "(I)Z"⟩ ⟨"CountDeskModel", "put", "(I)Z"⟩ ∈ mTg := tg_in 473 (by decide +kernel) rfl
theorem wm_333 : Cond.methodLink "CountDeskLaw" 22 ⟨"CountDesk", "add", "(II)I"⟩ ∈ mTg := tg_in 184 (by decide +kernel) rfl
theorem wm_334 : Cond.instanceMethod ⟨"CountDesk", "add", "(II)I"⟩ ∈ mTg := tg_in 185 (by decide +kernel) rfl
theorem wm_335 : Cond.selects "CountDesk" ⟨"CountDesk", "add", "(II)I"⟩ ⟨"CountDesk", "add", "(II)I"⟩ ∈ mTg := tg_in 186 (by decide +kernel) rfl
theorem wm_336 : Cond.methodLink "CountDeskLaw" 26 ⟨"CountDeskModel", "add", "(II)I"⟩ ∈ mTg := tg_in 475 (by decide +kernel) rfl
theorem wm_337 : Cond.instanceMethod ⟨"CountDeskModel", "add", "(II)I"⟩ ∈ mTg := tg_in 476 (by decide +kernel) rfl
theorem wm_338 : Cond.selects "CountDeskModel" ⟨"CountDeskModel", "add", "(II)I"⟩ ⟨"CountDeskModel", "add", "(II)I"⟩ ∈ mTg := tg_in 477 (by decide +kernel) rfl
theorem wm_339 : Cond.methodLink "CountDeskLaw" 27 ⟨"CountDesk", "goal", "(II)I"⟩ ∈ mTg := tg_in 317 (by decide +kernel) rfl
theorem wm_340 : Cond.instanceMethod ⟨"CountDesk", "goal", "(II)I"⟩ ∈ mTg := tg_in 318 (by decide +kernel) rfl
theorem wm_341 : Cond.selects "CountDesk" ⟨"CountDesk", "goal", "(II)I"⟩ ⟨"CountDesk", "goal", "(II)I"⟩ ∈ mTg := tg_in 319 (by decide +kernel) rfl
theorem wm_342 : Cond.methodLink "CountDeskLaw" 30 ⟨"CountDeskModel", "goal", "(II)I"⟩ ∈ mTg := tg_in 491 (by decide +kernel) rfl
theorem wm_343 : Cond.instanceMethod ⟨"CountDeskModel", "goal", "(II)I"⟩ ∈ mTg := tg_in 492 (by decide +kernel) rfl
theorem wm_344 : Cond.selects "CountDeskModel" ⟨"CountDeskModel", "goal", "(II)I"⟩ ⟨"CountDeskModel", "goal", "(II)I"⟩ ∈ mTg := tg_in 493 (by decide +kernel) rfl
theorem wm_345 : Cond.methodLink "CountDeskLaw" 31 ⟨"CountDesk", "take", "(IIII)I"⟩ ∈ mTg := tg_in 321 (by decide +kernel) rfl
theorem wm_346 : Cond.instanceMethod ⟨"CountDesk", "take", "(IIII)I"⟩ ∈ mTg := tg_in 322 (by decide +kernel) rfl
theorem wm_347 : Cond.selects "CountDesk" ⟨"CountDesk", "take", "(IIII)I"⟩ ⟨"CountDesk", "take", "(IIII)I"⟩ ∈ mTg := tg_in 323 (by decide +kernel) rfl
theorem wm_348 : Cond.methodLink "CountDeskLaw" 35 ⟨"CountDeskModel", "take", "(IIII)I"⟩ ∈ mTg := tg_in 495 (by decide +kernel) rfl
theorem wm_349 : Cond.instanceMethod ⟨"CountDeskModel", "take", "(IIII)I"⟩ ∈ mTg := tg_in 496 (by decide +kernel) rfl
theorem wm_350 : Cond.selects "CountDeskModel" ⟨"CountDeskModel", "take", "(IIII)I"⟩ ⟨"CountDeskModel", "take", "(IIII)I"⟩ ∈ mTg := tg_in 497 (by decide +kernel) rfl
theorem wm_351 : Cond.methodLink "CountDeskLaw" 36 ⟨"CountDesk", "kind", "(I)I"⟩ ∈ mTg := tg_in 328 (by decide +kernel) rfl
theorem wm_352 : Cond.methodLink "CountDeskLaw" 40 ⟨"CountDeskModel", "kind", "(I)I"⟩ ∈ mTg := tg_in 499 (by decide +kernel) rfl
theorem wm_353 : Cond.instanceMethod ⟨"CountDeskModel", "kind", "(I)I"⟩ ∈ mTg := tg_in 500 (by decide +kernel) rfl
theorem wm_354 : Cond.selects "CountDeskModel" ⟨"CountDeskModel", "kind", "(I)I"⟩ ⟨"CountDeskModel", "kind", "(I)I"⟩ ∈ mTg := tg_in 501 (by decide +kernel) rfl
theorem wm_355 : Cond.methodLink "CountDeskLaw" 41 ⟨"CountDesk", "switches", "(I)I"⟩ ∈ mTg := tg_in 332 (by decide +kernel) rfl
theorem wm_356 : Cond.instanceMethod ⟨"CountDesk", "switches", "(I)I"⟩ ∈ mTg := tg_in 333 (by decide +kernel) rfl
theorem wm_357 : Cond.selects "CountDesk" ⟨"CountDesk", "switches", "(I)I"⟩ ⟨"CountDesk", "switches", "(I)I"⟩ ∈ mTg := tg_in 334 (by decide +kernel) rfl
theorem wm_358 : Cond.methodLink "CountDeskLaw" 44 ⟨"CountDeskModel", "switches", "(I)I"⟩ ∈ mTg := tg_in 586 (by decide +kernel) rfl
theorem wm_359 : Cond.methodLink "CountDeskLaw" 45 ⟨"CountDesk", "arms", "(II)I"⟩ ∈ mTg := tg_in 340 (by decide +kernel) rfl
theorem wm_360 : Cond.instanceMethod ⟨"CountDesk", "arms", "(II)I"⟩ ∈ mTg := tg_in 341 (by decide +kernel) rfl
theorem wm_361 : Cond.selects "CountDesk" ⟨"CountDesk", "arms", "(II)I"⟩ ⟨"CountDesk", "arms", "(II)I"⟩ ∈ mTg := tg_in 342 (by decide +kernel) rfl
theorem wm_362 : Cond.methodLink "CountDeskLaw" 48 ⟨"CountDeskModel", "arms", "(II)I"⟩ ∈ mTg := tg_in 590 (by decide +kernel) rfl
theorem wm_363 : Cond.instanceMethod ⟨"CountDeskModel", "arms", "(II)I"⟩ ∈ mTg := tg_in 591 (by decide +kernel) rfl
theorem wm_364 : Cond.selects "CountDeskModel" ⟨"CountDeskModel", "arms", "(II)I"⟩ ⟨"CountDeskModel", "arms", "(II)I"⟩ ∈ mTg := tg_in 592 (by decide +kernel) rfl
theorem wm_365 : Cond.methodLink "CountDeskLaw" 49 ⟨"CountDesk", "fits", "(I)I"⟩ ∈ mTg := tg_in 348 (by decide +kernel) rfl
theorem wm_366 : Cond.instanceMethod ⟨"CountDesk", "fits", "(I)I"⟩ ∈ mTg := tg_in 349 (by decide +kernel) rfl
theorem wm_367 : Cond.selects "CountDesk" ⟨"CountDesk", "fits", "(I)I"⟩ ⟨"CountDesk", "fits", "(I)I"⟩ ∈ mTg := tg_in 350 (by decide +kernel) rfl
theorem wm_368 : Cond.methodLink "CountDeskLaw" 52 ⟨"CountDeskModel", "fits", "(I)I"⟩ ∈ mTg := tg_in 595 (by decide +kernel) rfl
theorem wm_369 : Cond.instanceMethod ⟨"CountDeskModel", "fits", "(I)I"⟩ ∈ mTg := tg_in 596 (by decide +kernel) rfl
theorem wm_370 : Cond.selects "CountDeskModel" ⟨"CountDeskModel", "fits", "(I)I"⟩ ⟨"CountDeskModel", "fits", "(I)I"⟩ ∈ mTg := tg_in 597 (by decide +kernel) rfl
theorem wm_371 : Cond.methodLink "CountDeskLaw" 53 ⟨"CountDesk", "node", "(II)I"⟩ ∈ mTg := tg_in 355 (by decide +kernel) rfl
theorem wm_372 : Cond.instanceMethod ⟨"CountDesk", "node", "(II)I"⟩ ∈ mTg := tg_in 356 (by decide +kernel) rfl
theorem wm_373 : Cond.selects "CountDesk" ⟨"CountDesk", "node", "(II)I"⟩ ⟨"CountDesk", "node", "(II)I"⟩ ∈ mTg := tg_in 357 (by decide +kernel) rfl
theorem wm_374 : Cond.methodLink "CountDeskLaw" 56 ⟨"CountDeskModel", "node", "(II)I"⟩ ∈ mTg := tg_in 599 (by decide +kernel) rfl
theorem wm_375 : Cond.instanceMethod ⟨"CountDeskModel", "node", "(II)I"⟩ ∈ mTg := tg_in 600 (by decide +kernel) rfl
theorem wm_376 : Cond.selects "CountDeskModel" ⟨"CountDeskModel", "node", "(II)I"⟩ ⟨"CountDeskModel", "node", "(II)I"⟩ ∈ mTg := tg_in 601 (by decide +kernel) rfl
theorem mc_0 : ∀ w ∈ u_ws "CountDesk$Arm" tb_0 11, w ∈ mTg := tg_all (by decide +kernel)
theorem mc_1 : ∀ w ∈ u_ws "CountDesk$Node" tb_1 15, w ∈ mTg := tg_all (by decide +kernel)
theorem mc_2 : ∀ w ∈ u_ws "CountDesk$Splitter" tb_2 3, w ∈ mTg := tg_all (by decide +kernel)
theorem mc_3 : ∀ w ∈ u_ws "CountDesk" tb_3 5, w ∈ mTg := tg_all (by decide +kernel)
theorem mc_4 : ∀ w ∈ u_ws "CountDeskModel" tb_4 29, w ∈ mTg := tg_all (by decide +kernel)
set_option maxRecDepth 100000 in
theorem cw_D_init : Cond.code (mY mm_D_init) (mB mm_D_init) (mL mm_D_init) (mR mm_D_init) ∈ mTg := tg_in 12 (by rfl) rfl
set_option maxRecDepth 100000 in
theorem cw_S_init : Cond.code (mY mm_S_init) (mB mm_S_init) (mL mm_S_init) (mR mm_S_init) ∈ mTg := tg_in 22 (by rfl) rfl
set_option maxRecDepth 100000 in
theorem cw_A_init : Cond.code (mY mm_A_init) (mB mm_A_init) (mL mm_A_init) (mR mm_A_init) ∈ mTg := tg_in 28 (by rfl) rfl
set_option maxRecDepth 100000 in
theorem cw_D_startOver : Cond.code (mY mm_D_startOver) (mB mm_D_startOver) (mL mm_D_startOver) (mR mm_D_startOver) ∈ mTg := tg_in 84 (by rfl) rfl
set_option maxRecDepth 100000 in
theorem cw_N_init : Cond.code (mY mm_N_init) (mB mm_N_init) (mL mm_N_init) (mR mm_N_init) ∈ mTg := tg_in 88 (by rfl) rfl
set_option maxRecDepth 100000 in
theorem cw_D_emptyWaiting : Cond.code (mY mm_D_emptyWaiting) (mB mm_D_emptyWaiting) (mL mm_D_emptyWaiting) (mR mm_D_emptyWaiting) ∈ mTg := tg_in 153 (by rfl) rfl
set_option maxRecDepth 100000 in
theorem cw_D_clear : Cond.code (mY mm_D_clear) (mB mm_D_clear) (mL mm_D_clear) (mR mm_D_clear) ∈ mTg := tg_in 173 (by rfl) rfl
set_option maxRecDepth 100000 in
theorem cw_D_put : Cond.code (mY mm_D_put) (mB mm_D_put) (mL mm_D_put) (mR mm_D_put) ∈ mTg := tg_in 177 (by rfl) rfl
set_option maxRecDepth 100000 in
theorem cw_D_isVariable : Cond.code (mY mm_D_isVariable) (mB mm_D_isVariable) (mL mm_D_isVariable) (mR mm_D_isVariable) ∈ mTg := tg_in 180 (by rfl) rfl
set_option maxRecDepth 100000 in
theorem cw_N_bit : Cond.code (mY mm_N_bit) (mB mm_N_bit) (mL mm_N_bit) (mR mm_N_bit) ∈ mTg := tg_in 183 (by rfl) rfl
set_option maxRecDepth 100000 in
theorem cw_D_add : Cond.code (mY mm_D_add) (mB mm_D_add) (mL mm_D_add) (mR mm_D_add) ∈ mTg := tg_in 187 (by rfl) rfl
set_option maxRecDepth 100000 in
theorem cw_D_openParent : Cond.code (mY mm_D_openParent) (mB mm_D_openParent) (mL mm_D_openParent) (mR mm_D_openParent) ∈ mTg := tg_in 191 (by rfl) rfl
set_option maxRecDepth 100000 in
theorem cw_D_find : Cond.code (mY mm_D_find) (mB mm_D_find) (mL mm_D_find) (mR mm_D_find) ∈ mTg := tg_in 195 (by rfl) rfl
set_option maxRecDepth 100000 in
theorem cw_N_hasRoom : Cond.code (mY mm_N_hasRoom) (mB mm_N_hasRoom) (mL mm_N_hasRoom) (mR mm_N_hasRoom) ∈ mTg := tg_in 199 (by rfl) rfl
set_option maxRecDepth 100000 in
theorem cw_D_hang : Cond.code (mY mm_D_hang) (mB mm_D_hang) (mL mm_D_hang) (mR mm_D_hang) ∈ mTg := tg_in 203 (by rfl) rfl
set_option maxRecDepth 100000 in
theorem cw_N_append : Cond.code (mY mm_N_append) (mB mm_N_append) (mL mm_N_append) (mR mm_N_append) ∈ mTg := tg_in 207 (by rfl) rfl
set_option maxRecDepth 100000 in
theorem cw_S_kindOf : Cond.code (mY mm_S_kindOf) (mB mm_S_kindOf) (mL mm_S_kindOf) (mR mm_S_kindOf) ∈ mTg := tg_in 211 (by rfl) rfl
set_option maxRecDepth 100000 in
theorem cw_S_gather : Cond.code (mY mm_S_gather) (mB mm_S_gather) (mL mm_S_gather) (mR mm_S_gather) ∈ mTg := tg_in 215 (by rfl) rfl
set_option maxRecDepth 100000 in
theorem cw_A_open : Cond.code (mY mm_A_open) (mB mm_A_open) (mL mm_A_open) (mR mm_A_open) ∈ mTg := tg_in 219 (by rfl) rfl
set_option maxRecDepth 100000 in
theorem cw_N_takenInHead : Cond.code (mY mm_N_takenInHead) (mB mm_N_takenInHead) (mL mm_N_takenInHead) (mR mm_N_takenInHead) ∈ mTg := tg_in 224 (by rfl) rfl
set_option maxRecDepth 100000 in
theorem cw_N_staysInHead : Cond.code (mY mm_N_staysInHead) (mB mm_N_staysInHead) (mL mm_N_staysInHead) (mR mm_N_staysInHead) ∈ mTg := tg_in 229 (by rfl) rfl
set_option maxRecDepth 100000 in
theorem cw_N_has : Cond.code (mY mm_N_has) (mB mm_N_has) (mL mm_N_has) (mR mm_N_has) ∈ mTg := tg_in 232 (by rfl) rfl
set_option maxRecDepth 100000 in
theorem cw_A_enlist : Cond.code (mY mm_A_enlist) (mB mm_A_enlist) (mL mm_A_enlist) (mR mm_A_enlist) ∈ mTg := tg_in 236 (by rfl) rfl
set_option maxRecDepth 100000 in
theorem cw_S_split : Cond.code (mY mm_S_split) (mB mm_S_split) (mL mm_S_split) (mR mm_S_split) ∈ mTg := tg_in 240 (by rfl) rfl
set_option maxRecDepth 100000 in
theorem cw_A_findSwitch : Cond.code (mY mm_A_findSwitch) (mB mm_A_findSwitch) (mL mm_A_findSwitch) (mR mm_A_findSwitch) ∈ mTg := tg_in 244 (by rfl) rfl
set_option maxRecDepth 100000 in
theorem cw_A_commonAll : Cond.code (mY mm_A_commonAll) (mB mm_A_commonAll) (mL mm_A_commonAll) (mR mm_A_commonAll) ∈ mTg := tg_in 250 (by rfl) rfl
set_option maxRecDepth 100000 in
theorem cw_N_takeOf : Cond.code (mY mm_N_takeOf) (mB mm_N_takeOf) (mL mm_N_takeOf) (mR mm_N_takeOf) ∈ mTg := tg_in 254 (by rfl) rfl
set_option maxRecDepth 100000 in
theorem cw_S_armFor : Cond.code (mY mm_S_armFor) (mB mm_S_armFor) (mL mm_S_armFor) (mR mm_S_armFor) ∈ mTg := tg_in 259 (by rfl) rfl
set_option maxRecDepth 100000 in
theorem cw_S_openedFor : Cond.code (mY mm_S_openedFor) (mB mm_S_openedFor) (mL mm_S_openedFor) (mR mm_S_openedFor) ∈ mTg := tg_in 263 (by rfl) rfl
set_option maxRecDepth 100000 in
theorem cw_S_openedAt : Cond.code (mY mm_S_openedAt) (mB mm_S_openedAt) (mL mm_S_openedAt) (mR mm_S_openedAt) ∈ mTg := tg_in 267 (by rfl) rfl
set_option maxRecDepth 100000 in
theorem cw_A_kindTogether : Cond.code (mY mm_A_kindTogether) (mB mm_A_kindTogether) (mL mm_A_kindTogether) (mR mm_A_kindTogether) ∈ mTg := tg_in 271 (by rfl) rfl
set_option maxRecDepth 100000 in
theorem cw_K_of : Cond.code (mY mm_K_of) (mB mm_K_of) (mL mm_K_of) (mR mm_K_of) ∈ mTg := tg_in 274 (by rfl) rfl
set_option maxRecDepth 100000 in
theorem cw_N_kindKnowing : Cond.code (mY mm_N_kindKnowing) (mB mm_N_kindKnowing) (mL mm_N_kindKnowing) (mR mm_N_kindKnowing) ∈ mTg := tg_in 278 (by rfl) rfl
set_option maxRecDepth 100000 in
theorem cw_N_rowKind : Cond.code (mY mm_N_rowKind) (mB mm_N_rowKind) (mL mm_N_rowKind) (mR mm_N_rowKind) ∈ mTg := tg_in 282 (by rfl) rfl
set_option maxRecDepth 100000 in
theorem cw_K_canFail : Cond.code (mY mm_K_canFail) (mB mm_K_canFail) (mL mm_K_canFail) (mR mm_K_canFail) ∈ mTg := tg_in 286 (by rfl) rfl
set_option maxRecDepth 100000 in
theorem cw_K_most : Cond.code (mY mm_K_most) (mB mm_K_most) (mL mm_K_most) (mR mm_K_most) ∈ mTg := tg_in 289 (by rfl) rfl
set_option maxRecDepth 100000 in
theorem cw_K_capped : Cond.code (mY mm_K_capped) (mB mm_K_capped) (mL mm_K_capped) (mR mm_K_capped) ∈ mTg := tg_in 292 (by rfl) rfl
set_option maxRecDepth 100000 in
theorem cw_A_hear : Cond.code (mY mm_A_hear) (mB mm_A_hear) (mL mm_A_hear) (mR mm_A_hear) ∈ mTg := tg_in 300 (by rfl) rfl
set_option maxRecDepth 100000 in
theorem cw_N_kindFromParts : Cond.code (mY mm_N_kindFromParts) (mB mm_N_kindFromParts) (mL mm_N_kindFromParts) (mR mm_N_kindFromParts) ∈ mTg := tg_in 307 (by rfl) rfl
set_option maxRecDepth 100000 in
theorem cw_N_notKind : Cond.code (mY mm_N_notKind) (mB mm_N_notKind) (mL mm_N_notKind) (mR mm_N_notKind) ∈ mTg := tg_in 311 (by rfl) rfl
set_option maxRecDepth 100000 in
theorem cw_N_testKind : Cond.code (mY mm_N_testKind) (mB mm_N_testKind) (mL mm_N_testKind) (mR mm_N_testKind) ∈ mTg := tg_in 315 (by rfl) rfl
set_option maxRecDepth 100000 in
theorem cw_D_goal : Cond.code (mY mm_D_goal) (mB mm_D_goal) (mL mm_D_goal) (mR mm_D_goal) ∈ mTg := tg_in 320 (by rfl) rfl
set_option maxRecDepth 100000 in
theorem cw_D_take : Cond.code (mY mm_D_take) (mB mm_D_take) (mL mm_D_take) (mR mm_D_take) ∈ mTg := tg_in 324 (by rfl) rfl
set_option maxRecDepth 100000 in
theorem cw_D_isConstructor : Cond.code (mY mm_D_isConstructor) (mB mm_D_isConstructor) (mL mm_D_isConstructor) (mR mm_D_isConstructor) ∈ mTg := tg_in 327 (by rfl) rfl
set_option maxRecDepth 100000 in
theorem cw_D_kind : Cond.code (mY mm_D_kind) (mB mm_D_kind) (mL mm_D_kind) (mR mm_D_kind) ∈ mTg := tg_in 331 (by rfl) rfl
set_option maxRecDepth 100000 in
theorem cw_D_switches : Cond.code (mY mm_D_switches) (mB mm_D_switches) (mL mm_D_switches) (mR mm_D_switches) ∈ mTg := tg_in 335 (by rfl) rfl
set_option maxRecDepth 100000 in
theorem cw_S_variableOf : Cond.code (mY mm_S_variableOf) (mB mm_S_variableOf) (mL mm_S_variableOf) (mR mm_S_variableOf) ∈ mTg := tg_in 339 (by rfl) rfl
set_option maxRecDepth 100000 in
theorem cw_D_arms : Cond.code (mY mm_D_arms) (mB mm_D_arms) (mL mm_D_arms) (mR mm_D_arms) ∈ mTg := tg_in 343 (by rfl) rfl
set_option maxRecDepth 100000 in
theorem cw_S_armsOf : Cond.code (mY mm_S_armsOf) (mB mm_S_armsOf) (mL mm_S_armsOf) (mR mm_S_armsOf) ∈ mTg := tg_in 347 (by rfl) rfl
set_option maxRecDepth 100000 in
theorem cw_D_fits : Cond.code (mY mm_D_fits) (mB mm_D_fits) (mL mm_D_fits) (mR mm_D_fits) ∈ mTg := tg_in 351 (by rfl) rfl
set_option maxRecDepth 100000 in
theorem cw_D_node : Cond.code (mY mm_D_node) (mB mm_D_node) (mL mm_D_node) (mR mm_D_node) ∈ mTg := tg_in 358 (by rfl) rfl
set_option maxRecDepth 100000 in
theorem cw_N_partNumber : Cond.code (mY mm_N_partNumber) (mB mm_N_partNumber) (mL mm_N_partNumber) (mR mm_N_partNumber) ∈ mTg := tg_in 362 (by rfl) rfl
set_option maxRecDepth 100000 in
theorem cw_M_init : Cond.code (mY mm_M_init) (mB mm_M_init) (mL mm_M_init) (mR mm_M_init) ∈ mTg := tg_in 367 (by rfl) rfl
set_option maxRecDepth 100000 in
theorem cw_M_begin : Cond.code (mY mm_M_begin) (mB mm_M_begin) (mL mm_M_begin) (mR mm_M_begin) ∈ mTg := tg_in 372 (by rfl) rfl
set_option maxRecDepth 100000 in
theorem cw_M_made : Cond.code (mY mm_M_made) (mB mm_M_made) (mL mm_M_made) (mR mm_M_made) ∈ mTg := tg_in 376 (by rfl) rfl
set_option maxRecDepth 100000 in
theorem cw_M_clear : Cond.code (mY mm_M_clear) (mB mm_M_clear) (mL mm_M_clear) (mR mm_M_clear) ∈ mTg := tg_in 470 (by rfl) rfl
set_option maxRecDepth 100000 in
theorem cw_M_put : Cond.code (mY mm_M_put) (mB mm_M_put) (mL mm_M_put) (mR mm_M_put) ∈ mTg := tg_in 474 (by rfl) rfl
set_option maxRecDepth 100000 in
theorem cw_M_add : Cond.code (mY mm_M_add) (mB mm_M_add) (mL mm_M_add) (mR mm_M_add) ∈ mTg := tg_in 478 (by rfl) rfl
set_option maxRecDepth 100000 in
theorem cw_M_emptyRow : Cond.code (mY mm_M_emptyRow) (mB mm_M_emptyRow) (mL mm_M_emptyRow) (mR mm_M_emptyRow) ∈ mTg := tg_in 482 (by rfl) rfl
set_option maxRecDepth 100000 in
theorem cw_M_isParent : Cond.code (mY mm_M_isParent) (mB mm_M_isParent) (mL mm_M_isParent) (mR mm_M_isParent) ∈ mTg := tg_in 486 (by rfl) rfl
set_option maxRecDepth 100000 in
theorem cw_M_isNode : Cond.code (mY mm_M_isNode) (mB mm_M_isNode) (mL mm_M_isNode) (mR mm_M_isNode) ∈ mTg := tg_in 490 (by rfl) rfl
set_option maxRecDepth 100000 in
theorem cw_M_goal : Cond.code (mY mm_M_goal) (mB mm_M_goal) (mL mm_M_goal) (mR mm_M_goal) ∈ mTg := tg_in 494 (by rfl) rfl
set_option maxRecDepth 100000 in
theorem cw_M_take : Cond.code (mY mm_M_take) (mB mm_M_take) (mL mm_M_take) (mR mm_M_take) ∈ mTg := tg_in 498 (by rfl) rfl
set_option maxRecDepth 100000 in
theorem cw_M_kind : Cond.code (mY mm_M_kind) (mB mm_M_kind) (mL mm_M_kind) (mR mm_M_kind) ∈ mTg := tg_in 502 (by rfl) rfl
set_option maxRecDepth 100000 in
theorem cw_M_worked : Cond.code (mY mm_M_worked) (mB mm_M_worked) (mL mm_M_worked) (mR mm_M_worked) ∈ mTg := tg_in 506 (by rfl) rfl
set_option maxRecDepth 100000 in
theorem cw_M_push : Cond.code (mY mm_M_push) (mB mm_M_push) (mL mm_M_push) (mR mm_M_push) ∈ mTg := tg_in 510 (by rfl) rfl
set_option maxRecDepth 100000 in
theorem cw_M_choice : Cond.code (mY mm_M_choice) (mB mm_M_choice) (mL mm_M_choice) (mR mm_M_choice) ∈ mTg := tg_in 514 (by rfl) rfl
set_option maxRecDepth 100000 in
theorem cw_M_pop : Cond.code (mY mm_M_pop) (mB mm_M_pop) (mL mm_M_pop) (mR mm_M_pop) ∈ mTg := tg_in 518 (by rfl) rfl
set_option maxRecDepth 100000 in
theorem cw_M_switchOf : Cond.code (mY mm_M_switchOf) (mB mm_M_switchOf) (mL mm_M_switchOf) (mR mm_M_switchOf) ∈ mTg := tg_in 522 (by rfl) rfl
set_option maxRecDepth 100000 in
theorem cw_M_isSwitch : Cond.code (mY mm_M_isSwitch) (mB mm_M_isSwitch) (mL mm_M_isSwitch) (mR mm_M_isSwitch) ∈ mTg := tg_in 526 (by rfl) rfl
set_option maxRecDepth 100000 in
theorem cw_M_taking : Cond.code (mY mm_M_taking) (mB mm_M_taking) (mL mm_M_taking) (mR mm_M_taking) ∈ mTg := tg_in 530 (by rfl) rfl
set_option maxRecDepth 100000 in
theorem cw_M_mark : Cond.code (mY mm_M_mark) (mB mm_M_mark) (mL mm_M_mark) (mR mm_M_mark) ∈ mTg := tg_in 534 (by rfl) rfl
set_option maxRecDepth 100000 in
theorem cw_M_plainAnswer : Cond.code (mY mm_M_plainAnswer) (mB mm_M_plainAnswer) (mL mm_M_plainAnswer) (mR mm_M_plainAnswer) ∈ mTg := tg_in 538 (by rfl) rfl
set_option maxRecDepth 100000 in
theorem cw_M_canFail : Cond.code (mY mm_M_canFail) (mB mm_M_canFail) (mL mm_M_canFail) (mR mm_M_canFail) ∈ mTg := tg_in 541 (by rfl) rfl
set_option maxRecDepth 100000 in
theorem cw_M_most : Cond.code (mY mm_M_most) (mB mm_M_most) (mL mm_M_most) (mR mm_M_most) ∈ mTg := tg_in 544 (by rfl) rfl
set_option maxRecDepth 100000 in
theorem cw_M_armAnswer : Cond.code (mY mm_M_armAnswer) (mB mm_M_armAnswer) (mL mm_M_armAnswer) (mR mm_M_armAnswer) ∈ mTg := tg_in 548 (by rfl) rfl
set_option maxRecDepth 100000 in
theorem cw_M_plainNext : Cond.code (mY mm_M_plainNext) (mB mm_M_plainNext) (mL mm_M_plainNext) (mR mm_M_plainNext) ∈ mTg := tg_in 552 (by rfl) rfl
set_option maxRecDepth 100000 in
theorem cw_M_kindOf : Cond.code (mY mm_M_kindOf) (mB mm_M_kindOf) (mL mm_M_kindOf) (mR mm_M_kindOf) ∈ mTg := tg_in 555 (by rfl) rfl
set_option maxRecDepth 100000 in
theorem cw_M_armNext : Cond.code (mY mm_M_armNext) (mB mm_M_armNext) (mL mm_M_armNext) (mR mm_M_armNext) ∈ mTg := tg_in 559 (by rfl) rfl
set_option maxRecDepth 100000 in
theorem cw_M_isFirst : Cond.code (mY mm_M_isFirst) (mB mm_M_isFirst) (mL mm_M_isFirst) (mR mm_M_isFirst) ∈ mTg := tg_in 563 (by rfl) rfl
set_option maxRecDepth 100000 in
theorem cw_M_tagOf : Cond.code (mY mm_M_tagOf) (mB mm_M_tagOf) (mL mm_M_tagOf) (mR mm_M_tagOf) ∈ mTg := tg_in 567 (by rfl) rfl
set_option maxRecDepth 100000 in
theorem cw_M_ask : Cond.code (mY mm_M_ask) (mB mm_M_ask) (mL mm_M_ask) (mR mm_M_ask) ∈ mTg := tg_in 571 (by rfl) rfl
set_option maxRecDepth 100000 in
theorem cw_M_listed : Cond.code (mY mm_M_listed) (mB mm_M_listed) (mL mm_M_listed) (mR mm_M_listed) ∈ mTg := tg_in 575 (by rfl) rfl
set_option maxRecDepth 100000 in
theorem cw_M_several : Cond.code (mY mm_M_several) (mB mm_M_several) (mL mm_M_several) (mR mm_M_several) ∈ mTg := tg_in 579 (by rfl) rfl
set_option maxRecDepth 100000 in
theorem cw_M_both : Cond.code (mY mm_M_both) (mB mm_M_both) (mL mm_M_both) (mR mm_M_both) ∈ mTg := tg_in 582 (by rfl) rfl
set_option maxRecDepth 100000 in
theorem cw_M_tested : Cond.code (mY mm_M_tested) (mB mm_M_tested) (mL mm_M_tested) (mR mm_M_tested) ∈ mTg := tg_in 585 (by rfl) rfl
set_option maxRecDepth 100000 in
theorem cw_M_switches : Cond.code (mY mm_M_switches) (mB mm_M_switches) (mL mm_M_switches) (mR mm_M_switches) ∈ mTg := tg_in 589 (by rfl) rfl
set_option maxRecDepth 100000 in
theorem cw_M_arms : Cond.code (mY mm_M_arms) (mB mm_M_arms) (mL mm_M_arms) (mR mm_M_arms) ∈ mTg := tg_in 593 (by rfl) rfl
set_option maxRecDepth 100000 in
theorem cw_M_fits : Cond.code (mY mm_M_fits) (mB mm_M_fits) (mL mm_M_fits) (mR mm_M_fits) ∈ mTg := tg_in 598 (by rfl) rfl
set_option maxRecDepth 100000 in
theorem cw_M_node : Cond.code (mY mm_M_node) (mB mm_M_node) (mL mm_M_node) (mR mm_M_node) ∈ mTg := tg_in 602 (by rfl) rfl
