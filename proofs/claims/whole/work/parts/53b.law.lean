/-! THE LAW: rows -/
set_option maxRecDepth 20000 in
theorem qw_22 : (Jvm.Cond.classLink "TurnedLandLaw" (7 : Nat) "TurnedLand") ∈ zAll := zAll_t1 22 rfl rfl
set_option maxRecDepth 20000 in
theorem qw_23 : (Jvm.Cond.instantiable "TurnedLand" (13 : Nat)) ∈ zAll := zAll_t1 23 rfl rfl
set_option maxRecDepth 20000 in
theorem qw_24 : (Jvm.Cond.methodLink "TurnedLandLaw" (9 : Nat) ({ cls := "TurnedLand", name := "<init>", desc := "()V" } : Jvm.MethodName)) ∈ zAll := zAll_t1 24 rfl rfl
set_option maxRecDepth 20000 in
theorem qw_25 : (Jvm.Cond.instanceMethod ({ cls := "TurnedLand", name := "<init>", desc := "()V" } : Jvm.MethodName)) ∈ zAll := zAll_t1 25 rfl rfl
set_option maxRecDepth 20000 in
theorem qw_423 : (Jvm.Cond.methodLink "TurnedLandLaw" (13 : Nat) ({ cls := "TurnedLand", name := "square", desc := "(I)I" } : Jvm.MethodName)) ∈ zAll := zAll_t2 183 rfl rfl
set_option maxRecDepth 20000 in
theorem qw_424 : (Jvm.Cond.instanceMethod ({ cls := "TurnedLand", name := "square", desc := "(I)I" } : Jvm.MethodName)) ∈ zAll := zAll_t2 184 rfl rfl
set_option maxRecDepth 20000 in
theorem qw_425 : (Jvm.Cond.selects "TurnedLand" ({ cls := "TurnedLand", name := "square", desc := "(I)I" } : Jvm.MethodName) ({ cls := "TurnedLand", name := "square", desc := "(I)I" } : Jvm.MethodName)) ∈ zAll := zAll_t2 185 rfl rfl
set_option maxRecDepth 20000 in
theorem qw_435 : (Jvm.Cond.methodLink "TurnedLandLaw" (18 : Nat) ({ cls := "TurnedLand", name := "cost", desc := "(II)I" } : Jvm.MethodName)) ∈ zAll := zAll_t2 195 rfl rfl
set_option maxRecDepth 20000 in
theorem qw_436 : (Jvm.Cond.instanceMethod ({ cls := "TurnedLand", name := "cost", desc := "(II)I" } : Jvm.MethodName)) ∈ zAll := zAll_t2 196 rfl rfl
set_option maxRecDepth 20000 in
theorem qw_437 : (Jvm.Cond.selects "TurnedLand" ({ cls := "TurnedLand", name := "cost", desc := "(II)I" } : Jvm.MethodName) ({ cls := "TurnedLand", name := "cost", desc := "(II)I" } : Jvm.MethodName)) ∈ zAll := zAll_t2 197 rfl rfl
set_option maxRecDepth 20000 in
theorem qw_444 : (Jvm.Cond.methodLink "TurnedLandLaw" (23 : Nat) ({ cls := "TurnedLand", name := "join", desc := "(III)I" } : Jvm.MethodName)) ∈ zAll := zAll_t2 204 rfl rfl
set_option maxRecDepth 20000 in
theorem qw_445 : (Jvm.Cond.instanceMethod ({ cls := "TurnedLand", name := "join", desc := "(III)I" } : Jvm.MethodName)) ∈ zAll := zAll_t2 205 rfl rfl
set_option maxRecDepth 20000 in
theorem qw_446 : (Jvm.Cond.selects "TurnedLand" ({ cls := "TurnedLand", name := "join", desc := "(III)I" } : Jvm.MethodName) ({ cls := "TurnedLand", name := "join", desc := "(III)I" } : Jvm.MethodName)) ∈ zAll := zAll_t2 206 rfl rfl
set_option maxRecDepth 20000 in
theorem qw_460 : (Jvm.Cond.methodLink "TurnedLandLaw" (28 : Nat) ({ cls := "TurnedLand", name := "joinIs", desc := "(II)I" } : Jvm.MethodName)) ∈ zAll := zAll_t2 220 rfl rfl
set_option maxRecDepth 20000 in
theorem qw_461 : (Jvm.Cond.instanceMethod ({ cls := "TurnedLand", name := "joinIs", desc := "(II)I" } : Jvm.MethodName)) ∈ zAll := zAll_t2 221 rfl rfl
set_option maxRecDepth 20000 in
theorem qw_462 : (Jvm.Cond.selects "TurnedLand" ({ cls := "TurnedLand", name := "joinIs", desc := "(II)I" } : Jvm.MethodName) ({ cls := "TurnedLand", name := "joinIs", desc := "(II)I" } : Jvm.MethodName)) ∈ zAll := zAll_t2 222 rfl rfl
set_option maxRecDepth 20000 in
theorem qw_468 : (Jvm.Cond.methodLink "TurnedLandLaw" (32 : Nat) ({ cls := "TurnedLand", name := "turn", desc := "(II)I" } : Jvm.MethodName)) ∈ zAll := zAll_t2 228 rfl rfl
set_option maxRecDepth 20000 in
theorem qw_469 : (Jvm.Cond.instanceMethod ({ cls := "TurnedLand", name := "turn", desc := "(II)I" } : Jvm.MethodName)) ∈ zAll := zAll_t2 229 rfl rfl
set_option maxRecDepth 20000 in
theorem qw_470 : (Jvm.Cond.selects "TurnedLand" ({ cls := "TurnedLand", name := "turn", desc := "(II)I" } : Jvm.MethodName) ({ cls := "TurnedLand", name := "turn", desc := "(II)I" } : Jvm.MethodName)) ∈ zAll := zAll_t2 230 rfl rfl
set_option maxRecDepth 20000 in
theorem qw_472 : (Jvm.Cond.methodLink "TurnedLandLaw" (36 : Nat) ({ cls := "TurnedLand", name := "part", desc := "()I" } : Jvm.MethodName)) ∈ zAll := zAll_t2 232 rfl rfl
set_option maxRecDepth 20000 in
theorem qw_473 : (Jvm.Cond.instanceMethod ({ cls := "TurnedLand", name := "part", desc := "()I" } : Jvm.MethodName)) ∈ zAll := zAll_t2 233 rfl rfl
set_option maxRecDepth 20000 in
theorem qw_474 : (Jvm.Cond.selects "TurnedLand" ({ cls := "TurnedLand", name := "part", desc := "()I" } : Jvm.MethodName) ({ cls := "TurnedLand", name := "part", desc := "()I" } : Jvm.MethodName)) ∈ zAll := zAll_t2 234 rfl rfl
set_option maxRecDepth 20000 in
theorem qw_480 : (Jvm.Cond.methodLink "TurnedLandLaw" (41 : Nat) ({ cls := "TurnedLand", name := "across", desc := "(I)I" } : Jvm.MethodName)) ∈ zAll := zAll_t3 0 rfl rfl
set_option maxRecDepth 20000 in
theorem qw_481 : (Jvm.Cond.instanceMethod ({ cls := "TurnedLand", name := "across", desc := "(I)I" } : Jvm.MethodName)) ∈ zAll := zAll_t3 1 rfl rfl
set_option maxRecDepth 20000 in
theorem qw_482 : (Jvm.Cond.selects "TurnedLand" ({ cls := "TurnedLand", name := "across", desc := "(I)I" } : Jvm.MethodName) ({ cls := "TurnedLand", name := "across", desc := "(I)I" } : Jvm.MethodName)) ∈ zAll := zAll_t3 2 rfl rfl
set_option maxRecDepth 20000 in
theorem qw_489 : (Jvm.Cond.methodLink "TurnedLandLaw" (45 : Nat) ({ cls := "TurnedLand", name := "land", desc := "(I)I" } : Jvm.MethodName)) ∈ zAll := zAll_t3 9 rfl rfl
set_option maxRecDepth 20000 in
theorem qw_490 : (Jvm.Cond.instanceMethod ({ cls := "TurnedLand", name := "land", desc := "(I)I" } : Jvm.MethodName)) ∈ zAll := zAll_t3 10 rfl rfl
set_option maxRecDepth 20000 in
theorem qw_491 : (Jvm.Cond.selects "TurnedLand" ({ cls := "TurnedLand", name := "land", desc := "(I)I" } : Jvm.MethodName) ({ cls := "TurnedLand", name := "land", desc := "(I)I" } : Jvm.MethodName)) ∈ zAll := zAll_t3 11 rfl rfl
set_option maxRecDepth 20000 in
theorem qw_542 : (Jvm.Cond.methodLink "TurnedLandLaw" (49 : Nat) ({ cls := "TurnedLand", name := "plain", desc := "()I" } : Jvm.MethodName)) ∈ zAll := zAll_t3 62 rfl rfl
set_option maxRecDepth 20000 in
theorem qw_543 : (Jvm.Cond.instanceMethod ({ cls := "TurnedLand", name := "plain", desc := "()I" } : Jvm.MethodName)) ∈ zAll := zAll_t3 63 rfl rfl
set_option maxRecDepth 20000 in
theorem qw_544 : (Jvm.Cond.selects "TurnedLand" ({ cls := "TurnedLand", name := "plain", desc := "()I" } : Jvm.MethodName) ({ cls := "TurnedLand", name := "plain", desc := "()I" } : Jvm.MethodName)) ∈ zAll := zAll_t3 64 rfl rfl
set_option maxRecDepth 20000 in
theorem qw_551 : (Jvm.Cond.methodLink "TurnedLandLaw" (55 : Nat) ({ cls := "TurnedLand", name := "feed", desc := "(JI)I" } : Jvm.MethodName)) ∈ zAll := zAll_t3 71 rfl rfl
set_option maxRecDepth 20000 in
theorem qw_552 : (Jvm.Cond.instanceMethod ({ cls := "TurnedLand", name := "feed", desc := "(JI)I" } : Jvm.MethodName)) ∈ zAll := zAll_t3 72 rfl rfl
set_option maxRecDepth 20000 in
theorem qw_553 : (Jvm.Cond.selects "TurnedLand" ({ cls := "TurnedLand", name := "feed", desc := "(JI)I" } : Jvm.MethodName) ({ cls := "TurnedLand", name := "feed", desc := "(JI)I" } : Jvm.MethodName)) ∈ zAll := zAll_t3 73 rfl rfl
set_option maxRecDepth 20000 in
theorem qw_555 : (Jvm.Cond.methodLink "TurnedLandLaw" (60 : Nat) ({ cls := "TurnedLand", name := "text", desc := "(I)I" } : Jvm.MethodName)) ∈ zAll := zAll_t3 75 rfl rfl
set_option maxRecDepth 20000 in
theorem qw_556 : (Jvm.Cond.instanceMethod ({ cls := "TurnedLand", name := "text", desc := "(I)I" } : Jvm.MethodName)) ∈ zAll := zAll_t3 76 rfl rfl
set_option maxRecDepth 20000 in
theorem qw_557 : (Jvm.Cond.selects "TurnedLand" ({ cls := "TurnedLand", name := "text", desc := "(I)I" } : Jvm.MethodName) ({ cls := "TurnedLand", name := "text", desc := "(I)I" } : Jvm.MethodName)) ∈ zAll := zAll_t3 77 rfl rfl
set_option maxRecDepth 20000 in
theorem qw_623 : (Jvm.Cond.methodLink "TurnedLandLaw" (64 : Nat) ({ cls := "TurnedLand", name := "untell", desc := "(I)I" } : Jvm.MethodName)) ∈ zAll := zAll_t3 143 rfl rfl
set_option maxRecDepth 20000 in
theorem qw_624 : (Jvm.Cond.instanceMethod ({ cls := "TurnedLand", name := "untell", desc := "(I)I" } : Jvm.MethodName)) ∈ zAll := zAll_t3 144 rfl rfl
set_option maxRecDepth 20000 in
theorem qw_625 : (Jvm.Cond.selects "TurnedLand" ({ cls := "TurnedLand", name := "untell", desc := "(I)I" } : Jvm.MethodName) ({ cls := "TurnedLand", name := "untell", desc := "(I)I" } : Jvm.MethodName)) ∈ zAll := zAll_t3 145 rfl rfl
set_option maxRecDepth 20000 in
theorem qw_627 : (Jvm.Cond.methodLink "TurnedLandLaw" (68 : Nat) ({ cls := "TurnedLand", name := "soonest", desc := "(II)I" } : Jvm.MethodName)) ∈ zAll := zAll_t3 147 rfl rfl
set_option maxRecDepth 20000 in
theorem qw_628 : (Jvm.Cond.instanceMethod ({ cls := "TurnedLand", name := "soonest", desc := "(II)I" } : Jvm.MethodName)) ∈ zAll := zAll_t3 148 rfl rfl
set_option maxRecDepth 20000 in
theorem qw_629 : (Jvm.Cond.selects "TurnedLand" ({ cls := "TurnedLand", name := "soonest", desc := "(II)I" } : Jvm.MethodName) ({ cls := "TurnedLand", name := "soonest", desc := "(II)I" } : Jvm.MethodName)) ∈ zAll := zAll_t3 149 rfl rfl
set_option maxRecDepth 20000 in
theorem qw_686 : (Jvm.Cond.methodLink "TurnedLandLaw" (72 : Nat) ({ cls := "TurnedLand", name := "reached", desc := "(I)I" } : Jvm.MethodName)) ∈ zAll := zAll_t3 206 rfl rfl
set_option maxRecDepth 20000 in
theorem qw_687 : (Jvm.Cond.instanceMethod ({ cls := "TurnedLand", name := "reached", desc := "(I)I" } : Jvm.MethodName)) ∈ zAll := zAll_t3 207 rfl rfl
set_option maxRecDepth 20000 in
theorem qw_688 : (Jvm.Cond.selects "TurnedLand" ({ cls := "TurnedLand", name := "reached", desc := "(I)I" } : Jvm.MethodName) ({ cls := "TurnedLand", name := "reached", desc := "(I)I" } : Jvm.MethodName)) ∈ zAll := zAll_t3 208 rfl rfl
set_option maxRecDepth 20000 in
theorem qw_690 : (Jvm.Cond.methodLink "TurnedLandLaw" (76 : Nat) ({ cls := "TurnedLand", name := "first", desc := "(II)I" } : Jvm.MethodName)) ∈ zAll := zAll_t3 210 rfl rfl
set_option maxRecDepth 20000 in
theorem qw_691 : (Jvm.Cond.instanceMethod ({ cls := "TurnedLand", name := "first", desc := "(II)I" } : Jvm.MethodName)) ∈ zAll := zAll_t3 211 rfl rfl
set_option maxRecDepth 20000 in
theorem qw_692 : (Jvm.Cond.selects "TurnedLand" ({ cls := "TurnedLand", name := "first", desc := "(II)I" } : Jvm.MethodName) ({ cls := "TurnedLand", name := "first", desc := "(II)I" } : Jvm.MethodName)) ∈ zAll := zAll_t3 212 rfl rfl
set_option maxRecDepth 20000 in
theorem qw_694 : (Jvm.Cond.methodLink "TurnedLandLaw" (80 : Nat) ({ cls := "TurnedLand", name := "walk", desc := "(III)I" } : Jvm.MethodName)) ∈ zAll := zAll_t3 214 rfl rfl
set_option maxRecDepth 20000 in
theorem qw_695 : (Jvm.Cond.instanceMethod ({ cls := "TurnedLand", name := "walk", desc := "(III)I" } : Jvm.MethodName)) ∈ zAll := zAll_t3 215 rfl rfl
set_option maxRecDepth 20000 in
theorem qw_696 : (Jvm.Cond.selects "TurnedLand" ({ cls := "TurnedLand", name := "walk", desc := "(III)I" } : Jvm.MethodName) ({ cls := "TurnedLand", name := "walk", desc := "(III)I" } : Jvm.MethodName)) ∈ zAll := zAll_t3 216 rfl rfl
set_option maxRecDepth 20000 in
theorem qw_707 : (Jvm.Cond.methodLink "TurnedLandLaw" (84 : Nat) ({ cls := "TurnedLand", name := "walkIs", desc := "(II)I" } : Jvm.MethodName)) ∈ zAll := zAll_t3 227 rfl rfl
set_option maxRecDepth 20000 in
theorem qw_708 : (Jvm.Cond.instanceMethod ({ cls := "TurnedLand", name := "walkIs", desc := "(II)I" } : Jvm.MethodName)) ∈ zAll := zAll_t3 228 rfl rfl
set_option maxRecDepth 20000 in
theorem qw_709 : (Jvm.Cond.selects "TurnedLand" ({ cls := "TurnedLand", name := "walkIs", desc := "(II)I" } : Jvm.MethodName) ({ cls := "TurnedLand", name := "walkIs", desc := "(II)I" } : Jvm.MethodName)) ∈ zAll := zAll_t3 229 rfl rfl
set_option maxRecDepth 20000 in
theorem qw_738 : (Jvm.Cond.methodLink "TurnedLandLaw" (88 : Nat) ({ cls := "TurnedLand", name := "as", desc := "(II)I" } : Jvm.MethodName)) ∈ zAll := zAll_t4 18 rfl rfl
set_option maxRecDepth 20000 in
theorem qw_739 : (Jvm.Cond.instanceMethod ({ cls := "TurnedLand", name := "as", desc := "(II)I" } : Jvm.MethodName)) ∈ zAll := zAll_t4 19 rfl rfl
set_option maxRecDepth 20000 in
theorem qw_740 : (Jvm.Cond.selects "TurnedLand" ({ cls := "TurnedLand", name := "as", desc := "(II)I" } : Jvm.MethodName) ({ cls := "TurnedLand", name := "as", desc := "(II)I" } : Jvm.MethodName)) ∈ zAll := zAll_t4 20 rfl rfl
set_option maxRecDepth 20000 in
theorem qw_747 : (Jvm.Cond.methodLink "TurnedLandLaw" (92 : Nat) ({ cls := "TurnedLand", name := "set", desc := "(III)I" } : Jvm.MethodName)) ∈ zAll := zAll_t4 27 rfl rfl
set_option maxRecDepth 20000 in
theorem qw_748 : (Jvm.Cond.instanceMethod ({ cls := "TurnedLand", name := "set", desc := "(III)I" } : Jvm.MethodName)) ∈ zAll := zAll_t4 28 rfl rfl
set_option maxRecDepth 20000 in
theorem qw_749 : (Jvm.Cond.selects "TurnedLand" ({ cls := "TurnedLand", name := "set", desc := "(III)I" } : Jvm.MethodName) ({ cls := "TurnedLand", name := "set", desc := "(III)I" } : Jvm.MethodName)) ∈ zAll := zAll_t4 29 rfl rfl
set_option maxRecDepth 20000 in
theorem qw_751 : (Jvm.Cond.methodLink "TurnedLandLaw" (96 : Nat) ({ cls := "TurnedLand", name := "gone", desc := "(III)I" } : Jvm.MethodName)) ∈ zAll := zAll_t4 31 rfl rfl
set_option maxRecDepth 20000 in
theorem qw_752 : (Jvm.Cond.instanceMethod ({ cls := "TurnedLand", name := "gone", desc := "(III)I" } : Jvm.MethodName)) ∈ zAll := zAll_t4 32 rfl rfl
set_option maxRecDepth 20000 in
theorem qw_753 : (Jvm.Cond.selects "TurnedLand" ({ cls := "TurnedLand", name := "gone", desc := "(III)I" } : Jvm.MethodName) ({ cls := "TurnedLand", name := "gone", desc := "(III)I" } : Jvm.MethodName)) ∈ zAll := zAll_t4 33 rfl rfl
set_option maxRecDepth 20000 in
theorem qw_762 : (Jvm.Cond.methodLink "TurnedLandLaw" (100 : Nat) ({ cls := "TurnedLand", name := "stops", desc := "(I)I" } : Jvm.MethodName)) ∈ zAll := zAll_t4 42 rfl rfl
set_option maxRecDepth 20000 in
theorem qw_763 : (Jvm.Cond.instanceMethod ({ cls := "TurnedLand", name := "stops", desc := "(I)I" } : Jvm.MethodName)) ∈ zAll := zAll_t4 43 rfl rfl
set_option maxRecDepth 20000 in
theorem qw_764 : (Jvm.Cond.selects "TurnedLand" ({ cls := "TurnedLand", name := "stops", desc := "(I)I" } : Jvm.MethodName) ({ cls := "TurnedLand", name := "stops", desc := "(I)I" } : Jvm.MethodName)) ∈ zAll := zAll_t4 44 rfl rfl
set_option maxRecDepth 20000 in
theorem qw_766 : (Jvm.Cond.methodLink "TurnedLandLaw" (104 : Nat) ({ cls := "TurnedLand", name := "person", desc := "(I)I" } : Jvm.MethodName)) ∈ zAll := zAll_t4 46 rfl rfl
set_option maxRecDepth 20000 in
theorem qw_767 : (Jvm.Cond.instanceMethod ({ cls := "TurnedLand", name := "person", desc := "(I)I" } : Jvm.MethodName)) ∈ zAll := zAll_t4 47 rfl rfl
set_option maxRecDepth 20000 in
theorem qw_768 : (Jvm.Cond.selects "TurnedLand" ({ cls := "TurnedLand", name := "person", desc := "(I)I" } : Jvm.MethodName) ({ cls := "TurnedLand", name := "person", desc := "(I)I" } : Jvm.MethodName)) ∈ zAll := zAll_t4 48 rfl rfl
set_option maxRecDepth 20000 in
theorem qw_770 : (Jvm.Cond.methodLink "TurnedLandLaw" (108 : Nat) ({ cls := "TurnedLand", name := "personIs", desc := "(II)I" } : Jvm.MethodName)) ∈ zAll := zAll_t4 50 rfl rfl
set_option maxRecDepth 20000 in
theorem qw_771 : (Jvm.Cond.instanceMethod ({ cls := "TurnedLand", name := "personIs", desc := "(II)I" } : Jvm.MethodName)) ∈ zAll := zAll_t4 51 rfl rfl
set_option maxRecDepth 20000 in
theorem qw_772 : (Jvm.Cond.selects "TurnedLand" ({ cls := "TurnedLand", name := "personIs", desc := "(II)I" } : Jvm.MethodName) ({ cls := "TurnedLand", name := "personIs", desc := "(II)I" } : Jvm.MethodName)) ∈ zAll := zAll_t4 52 rfl rfl
set_option maxRecDepth 20000 in
theorem qw_779 : (Jvm.Cond.methodLink "TurnedLandLaw" (112 : Nat) ({ cls := "TurnedLand", name := "cross", desc := "(II)I" } : Jvm.MethodName)) ∈ zAll := zAll_t4 59 rfl rfl
set_option maxRecDepth 20000 in
theorem qw_780 : (Jvm.Cond.instanceMethod ({ cls := "TurnedLand", name := "cross", desc := "(II)I" } : Jvm.MethodName)) ∈ zAll := zAll_t4 60 rfl rfl
set_option maxRecDepth 20000 in
theorem qw_781 : (Jvm.Cond.selects "TurnedLand" ({ cls := "TurnedLand", name := "cross", desc := "(II)I" } : Jvm.MethodName) ({ cls := "TurnedLand", name := "cross", desc := "(II)I" } : Jvm.MethodName)) ∈ zAll := zAll_t4 61 rfl rfl
set_option maxRecDepth 20000 in
theorem qw_790 : (Jvm.Cond.methodLink "TurnedLandLaw" (116 : Nat) ({ cls := "TurnedLand", name := "stroll", desc := "(II)I" } : Jvm.MethodName)) ∈ zAll := zAll_t4 70 rfl rfl
set_option maxRecDepth 20000 in
theorem qw_791 : (Jvm.Cond.instanceMethod ({ cls := "TurnedLand", name := "stroll", desc := "(II)I" } : Jvm.MethodName)) ∈ zAll := zAll_t4 71 rfl rfl
set_option maxRecDepth 20000 in
theorem qw_792 : (Jvm.Cond.selects "TurnedLand" ({ cls := "TurnedLand", name := "stroll", desc := "(II)I" } : Jvm.MethodName) ({ cls := "TurnedLand", name := "stroll", desc := "(II)I" } : Jvm.MethodName)) ∈ zAll := zAll_t4 72 rfl rfl
set_option maxRecDepth 20000 in
theorem qw_799 : (Jvm.Cond.methodLink "TurnedLandLaw" (120 : Nat) ({ cls := "TurnedLand", name := "meet", desc := "(III)I" } : Jvm.MethodName)) ∈ zAll := zAll_t4 79 rfl rfl
set_option maxRecDepth 20000 in
theorem qw_800 : (Jvm.Cond.instanceMethod ({ cls := "TurnedLand", name := "meet", desc := "(III)I" } : Jvm.MethodName)) ∈ zAll := zAll_t4 80 rfl rfl
set_option maxRecDepth 20000 in
theorem qw_801 : (Jvm.Cond.selects "TurnedLand" ({ cls := "TurnedLand", name := "meet", desc := "(III)I" } : Jvm.MethodName) ({ cls := "TurnedLand", name := "meet", desc := "(III)I" } : Jvm.MethodName)) ∈ zAll := zAll_t4 81 rfl rfl
set_option maxRecDepth 20000 in
theorem qw_807 : (Jvm.Cond.methodLink "TurnedLandLaw" (124 : Nat) ({ cls := "TurnedLand", name := "thing", desc := "(III)I" } : Jvm.MethodName)) ∈ zAll := zAll_t4 87 rfl rfl
set_option maxRecDepth 20000 in
theorem qw_808 : (Jvm.Cond.instanceMethod ({ cls := "TurnedLand", name := "thing", desc := "(III)I" } : Jvm.MethodName)) ∈ zAll := zAll_t4 88 rfl rfl
set_option maxRecDepth 20000 in
theorem qw_809 : (Jvm.Cond.selects "TurnedLand" ({ cls := "TurnedLand", name := "thing", desc := "(III)I" } : Jvm.MethodName) ({ cls := "TurnedLand", name := "thing", desc := "(III)I" } : Jvm.MethodName)) ∈ zAll := zAll_t4 89 rfl rfl
set_option maxRecDepth 20000 in
theorem qw_815 : (Jvm.Cond.methodLink "TurnedLandLaw" (128 : Nat) ({ cls := "TurnedLand", name := "thingIs", desc := "(II)I" } : Jvm.MethodName)) ∈ zAll := zAll_t4 95 rfl rfl
set_option maxRecDepth 20000 in
theorem qw_816 : (Jvm.Cond.instanceMethod ({ cls := "TurnedLand", name := "thingIs", desc := "(II)I" } : Jvm.MethodName)) ∈ zAll := zAll_t4 96 rfl rfl
set_option maxRecDepth 20000 in
theorem qw_817 : (Jvm.Cond.selects "TurnedLand" ({ cls := "TurnedLand", name := "thingIs", desc := "(II)I" } : Jvm.MethodName) ({ cls := "TurnedLand", name := "thingIs", desc := "(II)I" } : Jvm.MethodName)) ∈ zAll := zAll_t4 97 rfl rfl
set_option maxRecDepth 20000 in
theorem qw_827 : (Jvm.Cond.methodLink "TurnedLandLaw" (132 : Nat) ({ cls := "TurnedLand", name := "bring", desc := "(I)I" } : Jvm.MethodName)) ∈ zAll := zAll_t4 107 rfl rfl
set_option maxRecDepth 20000 in
theorem qw_828 : (Jvm.Cond.instanceMethod ({ cls := "TurnedLand", name := "bring", desc := "(I)I" } : Jvm.MethodName)) ∈ zAll := zAll_t4 108 rfl rfl
set_option maxRecDepth 20000 in
theorem qw_829 : (Jvm.Cond.selects "TurnedLand" ({ cls := "TurnedLand", name := "bring", desc := "(I)I" } : Jvm.MethodName) ({ cls := "TurnedLand", name := "bring", desc := "(I)I" } : Jvm.MethodName)) ∈ zAll := zAll_t4 109 rfl rfl
set_option maxRecDepth 20000 in
theorem qw_835 : (Jvm.Cond.methodLink "TurnedLandLaw" (136 : Nat) ({ cls := "TurnedLand", name := "doubt", desc := "(I)I" } : Jvm.MethodName)) ∈ zAll := zAll_t4 115 rfl rfl
set_option maxRecDepth 20000 in
theorem qw_836 : (Jvm.Cond.instanceMethod ({ cls := "TurnedLand", name := "doubt", desc := "(I)I" } : Jvm.MethodName)) ∈ zAll := zAll_t4 116 rfl rfl
set_option maxRecDepth 20000 in
theorem qw_837 : (Jvm.Cond.selects "TurnedLand" ({ cls := "TurnedLand", name := "doubt", desc := "(I)I" } : Jvm.MethodName) ({ cls := "TurnedLand", name := "doubt", desc := "(I)I" } : Jvm.MethodName)) ∈ zAll := zAll_t4 117 rfl rfl
set_option maxRecDepth 20000 in
theorem qw_840 : (Jvm.Cond.methodLink "TurnedLandLaw" (140 : Nat) ({ cls := "TurnedLand", name := "fact", desc := "(II)I" } : Jvm.MethodName)) ∈ zAll := zAll_t4 120 rfl rfl
set_option maxRecDepth 20000 in
theorem qw_841 : (Jvm.Cond.instanceMethod ({ cls := "TurnedLand", name := "fact", desc := "(II)I" } : Jvm.MethodName)) ∈ zAll := zAll_t4 121 rfl rfl
set_option maxRecDepth 20000 in
theorem qw_842 : (Jvm.Cond.selects "TurnedLand" ({ cls := "TurnedLand", name := "fact", desc := "(II)I" } : Jvm.MethodName) ({ cls := "TurnedLand", name := "fact", desc := "(II)I" } : Jvm.MethodName)) ∈ zAll := zAll_t4 122 rfl rfl
set_option maxRecDepth 20000 in
theorem qw_844 : (Jvm.Cond.methodLink "TurnedLandLaw" (144 : Nat) ({ cls := "TurnedLand", name := "forget", desc := "()I" } : Jvm.MethodName)) ∈ zAll := zAll_t4 124 rfl rfl
set_option maxRecDepth 20000 in
theorem qw_845 : (Jvm.Cond.instanceMethod ({ cls := "TurnedLand", name := "forget", desc := "()I" } : Jvm.MethodName)) ∈ zAll := zAll_t4 125 rfl rfl
set_option maxRecDepth 20000 in
theorem qw_846 : (Jvm.Cond.selects "TurnedLand" ({ cls := "TurnedLand", name := "forget", desc := "()I" } : Jvm.MethodName) ({ cls := "TurnedLand", name := "forget", desc := "()I" } : Jvm.MethodName)) ∈ zAll := zAll_t4 126 rfl rfl
set_option maxRecDepth 20000 in
theorem qw_848 : (Jvm.Cond.methodLink "TurnedLandLaw" (148 : Nat) ({ cls := "TurnedLand", name := "agree", desc := "()I" } : Jvm.MethodName)) ∈ zAll := zAll_t4 128 rfl rfl
set_option maxRecDepth 20000 in
theorem qw_849 : (Jvm.Cond.instanceMethod ({ cls := "TurnedLand", name := "agree", desc := "()I" } : Jvm.MethodName)) ∈ zAll := zAll_t4 129 rfl rfl
set_option maxRecDepth 20000 in
theorem qw_850 : (Jvm.Cond.selects "TurnedLand" ({ cls := "TurnedLand", name := "agree", desc := "()I" } : Jvm.MethodName) ({ cls := "TurnedLand", name := "agree", desc := "()I" } : Jvm.MethodName)) ∈ zAll := zAll_t4 130 rfl rfl
set_option maxRecDepth 20000 in
theorem qw_882 : (Jvm.Cond.methodLink "TurnedLandLaw" (152 : Nat) ({ cls := "TurnedLand", name := "known", desc := "(I)I" } : Jvm.MethodName)) ∈ zAll := zAll_t4 162 rfl rfl
set_option maxRecDepth 20000 in
theorem qw_883 : (Jvm.Cond.instanceMethod ({ cls := "TurnedLand", name := "known", desc := "(I)I" } : Jvm.MethodName)) ∈ zAll := zAll_t4 163 rfl rfl
set_option maxRecDepth 20000 in
theorem qw_884 : (Jvm.Cond.selects "TurnedLand" ({ cls := "TurnedLand", name := "known", desc := "(I)I" } : Jvm.MethodName) ({ cls := "TurnedLand", name := "known", desc := "(I)I" } : Jvm.MethodName)) ∈ zAll := zAll_t4 164 rfl rfl
set_option maxRecDepth 20000 in
theorem qw_886 : (Jvm.Cond.methodLink "TurnedLandLaw" (156 : Nat) ({ cls := "TurnedLand", name := "test", desc := "()I" } : Jvm.MethodName)) ∈ zAll := zAll_t4 166 rfl rfl
set_option maxRecDepth 20000 in
theorem qw_887 : (Jvm.Cond.instanceMethod ({ cls := "TurnedLand", name := "test", desc := "()I" } : Jvm.MethodName)) ∈ zAll := zAll_t4 167 rfl rfl
set_option maxRecDepth 20000 in
theorem qw_888 : (Jvm.Cond.selects "TurnedLand" ({ cls := "TurnedLand", name := "test", desc := "()I" } : Jvm.MethodName) ({ cls := "TurnedLand", name := "test", desc := "()I" } : Jvm.MethodName)) ∈ zAll := zAll_t4 168 rfl rfl
set_option maxRecDepth 20000 in
theorem qw_895 : (Jvm.Cond.methodLink "TurnedLandLaw" (160 : Nat) ({ cls := "TurnedLand", name := "seed", desc := "(I)I" } : Jvm.MethodName)) ∈ zAll := zAll_t4 175 rfl rfl
set_option maxRecDepth 20000 in
theorem qw_896 : (Jvm.Cond.instanceMethod ({ cls := "TurnedLand", name := "seed", desc := "(I)I" } : Jvm.MethodName)) ∈ zAll := zAll_t4 176 rfl rfl
set_option maxRecDepth 20000 in
theorem qw_897 : (Jvm.Cond.selects "TurnedLand" ({ cls := "TurnedLand", name := "seed", desc := "(I)I" } : Jvm.MethodName) ({ cls := "TurnedLand", name := "seed", desc := "(I)I" } : Jvm.MethodName)) ∈ zAll := zAll_t4 177 rfl rfl
set_option maxRecDepth 20000 in
theorem qw_899 : (Jvm.Cond.methodLink "TurnedLandLaw" (164 : Nat) ({ cls := "TurnedLand", name := "voice", desc := "(III)I" } : Jvm.MethodName)) ∈ zAll := zAll_t4 179 rfl rfl
set_option maxRecDepth 20000 in
theorem qw_900 : (Jvm.Cond.instanceMethod ({ cls := "TurnedLand", name := "voice", desc := "(III)I" } : Jvm.MethodName)) ∈ zAll := zAll_t4 180 rfl rfl
set_option maxRecDepth 20000 in
theorem qw_901 : (Jvm.Cond.selects "TurnedLand" ({ cls := "TurnedLand", name := "voice", desc := "(III)I" } : Jvm.MethodName) ({ cls := "TurnedLand", name := "voice", desc := "(III)I" } : Jvm.MethodName)) ∈ zAll := zAll_t4 181 rfl rfl
set_option maxRecDepth 20000 in
theorem qw_935 : (Jvm.Cond.methodLink "TurnedLandLaw" (168 : Nat) ({ cls := "TurnedLand", name := "body", desc := "(I)I" } : Jvm.MethodName)) ∈ zAll := zAll_t4 215 rfl rfl
set_option maxRecDepth 20000 in
theorem qw_936 : (Jvm.Cond.instanceMethod ({ cls := "TurnedLand", name := "body", desc := "(I)I" } : Jvm.MethodName)) ∈ zAll := zAll_t4 216 rfl rfl
set_option maxRecDepth 20000 in
theorem qw_937 : (Jvm.Cond.selects "TurnedLand" ({ cls := "TurnedLand", name := "body", desc := "(I)I" } : Jvm.MethodName) ({ cls := "TurnedLand", name := "body", desc := "(I)I" } : Jvm.MethodName)) ∈ zAll := zAll_t4 217 rfl rfl
set_option maxRecDepth 20000 in
theorem qw_939 : (Jvm.Cond.methodLink "TurnedLandLaw" (172 : Nat) ({ cls := "TurnedLand", name := "sheet", desc := "(III)I" } : Jvm.MethodName)) ∈ zAll := zAll_t4 219 rfl rfl
set_option maxRecDepth 20000 in
theorem qw_940 : (Jvm.Cond.instanceMethod ({ cls := "TurnedLand", name := "sheet", desc := "(III)I" } : Jvm.MethodName)) ∈ zAll := zAll_t4 220 rfl rfl
set_option maxRecDepth 20000 in
theorem qw_941 : (Jvm.Cond.selects "TurnedLand" ({ cls := "TurnedLand", name := "sheet", desc := "(III)I" } : Jvm.MethodName) ({ cls := "TurnedLand", name := "sheet", desc := "(III)I" } : Jvm.MethodName)) ∈ zAll := zAll_t4 221 rfl rfl
set_option maxRecDepth 20000 in
theorem qw_947 : (Jvm.Cond.methodLink "TurnedLandLaw" (176 : Nat) ({ cls := "TurnedLand", name := "put", desc := "(III)I" } : Jvm.MethodName)) ∈ zAll := zAll_t4 227 rfl rfl
set_option maxRecDepth 20000 in
theorem qw_948 : (Jvm.Cond.instanceMethod ({ cls := "TurnedLand", name := "put", desc := "(III)I" } : Jvm.MethodName)) ∈ zAll := zAll_t4 228 rfl rfl
set_option maxRecDepth 20000 in
theorem qw_949 : (Jvm.Cond.selects "TurnedLand" ({ cls := "TurnedLand", name := "put", desc := "(III)I" } : Jvm.MethodName) ({ cls := "TurnedLand", name := "put", desc := "(III)I" } : Jvm.MethodName)) ∈ zAll := zAll_t4 229 rfl rfl
set_option maxRecDepth 20000 in
theorem qw_954 : (Jvm.Cond.methodLink "TurnedLandLaw" (180 : Nat) ({ cls := "TurnedLand", name := "move", desc := "(IIIII)I" } : Jvm.MethodName)) ∈ zAll := zAll_t4 234 rfl rfl
set_option maxRecDepth 20000 in
theorem qw_955 : (Jvm.Cond.instanceMethod ({ cls := "TurnedLand", name := "move", desc := "(IIIII)I" } : Jvm.MethodName)) ∈ zAll := zAll_t4 235 rfl rfl
set_option maxRecDepth 20000 in
theorem qw_956 : (Jvm.Cond.selects "TurnedLand" ({ cls := "TurnedLand", name := "move", desc := "(IIIII)I" } : Jvm.MethodName) ({ cls := "TurnedLand", name := "move", desc := "(IIIII)I" } : Jvm.MethodName)) ∈ zAll := zAll_t4 236 rfl rfl
set_option maxRecDepth 20000 in
theorem qw_963 : (Jvm.Cond.methodLink "TurnedLandLaw" (185 : Nat) ({ cls := "TurnedLand", name := "joins", desc := "(I)I" } : Jvm.MethodName)) ∈ zAll := zAll_t5 3 rfl rfl
set_option maxRecDepth 20000 in
theorem qw_964 : (Jvm.Cond.instanceMethod ({ cls := "TurnedLand", name := "joins", desc := "(I)I" } : Jvm.MethodName)) ∈ zAll := zAll_t5 4 rfl rfl
set_option maxRecDepth 20000 in
theorem qw_965 : (Jvm.Cond.selects "TurnedLand" ({ cls := "TurnedLand", name := "joins", desc := "(I)I" } : Jvm.MethodName) ({ cls := "TurnedLand", name := "joins", desc := "(I)I" } : Jvm.MethodName)) ∈ zAll := zAll_t5 5 rfl rfl
set_option maxRecDepth 20000 in
theorem qw_967 : (Jvm.Cond.methodLink "TurnedLandLaw" (189 : Nat) ({ cls := "TurnedLand", name := "image", desc := "()I" } : Jvm.MethodName)) ∈ zAll := zAll_t5 7 rfl rfl
set_option maxRecDepth 20000 in
theorem qw_968 : (Jvm.Cond.instanceMethod ({ cls := "TurnedLand", name := "image", desc := "()I" } : Jvm.MethodName)) ∈ zAll := zAll_t5 8 rfl rfl
set_option maxRecDepth 20000 in
theorem qw_969 : (Jvm.Cond.selects "TurnedLand" ({ cls := "TurnedLand", name := "image", desc := "()I" } : Jvm.MethodName) ({ cls := "TurnedLand", name := "image", desc := "()I" } : Jvm.MethodName)) ∈ zAll := zAll_t5 9 rfl rfl
set_option maxRecDepth 20000 in
theorem qw_1000 : (Jvm.Cond.methodLink "TurnedLandLaw" (193 : Nat) ({ cls := "TurnedLand", name := "restore", desc := "()I" } : Jvm.MethodName)) ∈ zAll := zAll_t5 40 rfl rfl
set_option maxRecDepth 20000 in
theorem qw_1001 : (Jvm.Cond.instanceMethod ({ cls := "TurnedLand", name := "restore", desc := "()I" } : Jvm.MethodName)) ∈ zAll := zAll_t5 41 rfl rfl
set_option maxRecDepth 20000 in
theorem qw_1002 : (Jvm.Cond.selects "TurnedLand" ({ cls := "TurnedLand", name := "restore", desc := "()I" } : Jvm.MethodName) ({ cls := "TurnedLand", name := "restore", desc := "()I" } : Jvm.MethodName)) ∈ zAll := zAll_t5 42 rfl rfl
set_option maxRecDepth 20000 in
theorem qw_1004 : (Jvm.Cond.methodLink "TurnedLandLaw" (197 : Nat) ({ cls := "TurnedLand", name := "tell", desc := "(I)I" } : Jvm.MethodName)) ∈ zAll := zAll_t5 44 rfl rfl
set_option maxRecDepth 20000 in
theorem qw_1005 : (Jvm.Cond.instanceMethod ({ cls := "TurnedLand", name := "tell", desc := "(I)I" } : Jvm.MethodName)) ∈ zAll := zAll_t5 45 rfl rfl
set_option maxRecDepth 20000 in
theorem qw_1006 : (Jvm.Cond.selects "TurnedLand" ({ cls := "TurnedLand", name := "tell", desc := "(I)I" } : Jvm.MethodName) ({ cls := "TurnedLand", name := "tell", desc := "(I)I" } : Jvm.MethodName)) ∈ zAll := zAll_t5 46 rfl rfl
set_option maxRecDepth 20000 in
theorem qw_1008 : (Jvm.Cond.methodLink "TurnedLandLaw" (201 : Nat) ({ cls := "TurnedLand", name := "check", desc := "(I)I" } : Jvm.MethodName)) ∈ zAll := zAll_t5 48 rfl rfl
set_option maxRecDepth 20000 in
theorem qw_1009 : (Jvm.Cond.instanceMethod ({ cls := "TurnedLand", name := "check", desc := "(I)I" } : Jvm.MethodName)) ∈ zAll := zAll_t5 49 rfl rfl
set_option maxRecDepth 20000 in
theorem qw_1010 : (Jvm.Cond.selects "TurnedLand" ({ cls := "TurnedLand", name := "check", desc := "(I)I" } : Jvm.MethodName) ({ cls := "TurnedLand", name := "check", desc := "(I)I" } : Jvm.MethodName)) ∈ zAll := zAll_t5 50 rfl rfl
set_option maxRecDepth 20000 in
theorem qw_1016 : (Jvm.Cond.methodLink "TurnedLandLaw" (205 : Nat) ({ cls := "TurnedLand", name := "count", desc := "(I)I" } : Jvm.MethodName)) ∈ zAll := zAll_t5 56 rfl rfl
set_option maxRecDepth 20000 in
theorem qw_1017 : (Jvm.Cond.instanceMethod ({ cls := "TurnedLand", name := "count", desc := "(I)I" } : Jvm.MethodName)) ∈ zAll := zAll_t5 57 rfl rfl
set_option maxRecDepth 20000 in
theorem qw_1018 : (Jvm.Cond.selects "TurnedLand" ({ cls := "TurnedLand", name := "count", desc := "(I)I" } : Jvm.MethodName) ({ cls := "TurnedLand", name := "count", desc := "(I)I" } : Jvm.MethodName)) ∈ zAll := zAll_t5 58 rfl rfl
set_option maxRecDepth 20000 in
theorem qw_1020 : (Jvm.Cond.methodLink "TurnedLandLaw" (209 : Nat) ({ cls := "TurnedLand", name := "told", desc := "(I)I" } : Jvm.MethodName)) ∈ zAll := zAll_t5 60 rfl rfl
set_option maxRecDepth 20000 in
theorem qw_1021 : (Jvm.Cond.instanceMethod ({ cls := "TurnedLand", name := "told", desc := "(I)I" } : Jvm.MethodName)) ∈ zAll := zAll_t5 61 rfl rfl
set_option maxRecDepth 20000 in
theorem qw_1022 : (Jvm.Cond.selects "TurnedLand" ({ cls := "TurnedLand", name := "told", desc := "(I)I" } : Jvm.MethodName) ({ cls := "TurnedLand", name := "told", desc := "(I)I" } : Jvm.MethodName)) ∈ zAll := zAll_t5 62 rfl rfl
set_option maxRecDepth 20000 in
theorem qw_1024 : (Jvm.Cond.classLink "TurnedLandLaw" (10 : Nat) "TurnedLandModel") ∈ zAll := zAll_t5 64 rfl rfl
set_option maxRecDepth 20000 in
theorem qw_1025 : (Jvm.Cond.instantiable "TurnedLandModel" (32 : Nat)) ∈ zAll := zAll_t5 65 rfl rfl
set_option maxRecDepth 20000 in
theorem qw_1026 : (Jvm.Cond.methodLink "TurnedLandLaw" (12 : Nat) ({ cls := "TurnedLandModel", name := "<init>", desc := "()V" } : Jvm.MethodName)) ∈ zAll := zAll_t5 66 rfl rfl
set_option maxRecDepth 20000 in
theorem qw_1027 : (Jvm.Cond.instanceMethod ({ cls := "TurnedLandModel", name := "<init>", desc := "()V" } : Jvm.MethodName)) ∈ zAll := zAll_t5 67 rfl rfl
set_option maxRecDepth 20000 in
theorem qw_1132 : (Jvm.Cond.methodLink "TurnedLandLaw" (17 : Nat) ({ cls := "TurnedLandModel", name := "square", desc := "(I)I" } : Jvm.MethodName)) ∈ zAll := zAll_t5 172 rfl rfl
set_option maxRecDepth 20000 in
theorem qw_1133 : (Jvm.Cond.instanceMethod ({ cls := "TurnedLandModel", name := "square", desc := "(I)I" } : Jvm.MethodName)) ∈ zAll := zAll_t5 173 rfl rfl
set_option maxRecDepth 20000 in
theorem qw_1134 : (Jvm.Cond.selects "TurnedLandModel" ({ cls := "TurnedLandModel", name := "square", desc := "(I)I" } : Jvm.MethodName) ({ cls := "TurnedLandModel", name := "square", desc := "(I)I" } : Jvm.MethodName)) ∈ zAll := zAll_t5 174 rfl rfl
set_option maxRecDepth 20000 in
theorem qw_1146 : (Jvm.Cond.methodLink "TurnedLandLaw" (22 : Nat) ({ cls := "TurnedLandModel", name := "cost", desc := "(II)I" } : Jvm.MethodName)) ∈ zAll := zAll_t5 186 rfl rfl
set_option maxRecDepth 20000 in
theorem qw_1147 : (Jvm.Cond.instanceMethod ({ cls := "TurnedLandModel", name := "cost", desc := "(II)I" } : Jvm.MethodName)) ∈ zAll := zAll_t5 187 rfl rfl
set_option maxRecDepth 20000 in
theorem qw_1148 : (Jvm.Cond.selects "TurnedLandModel" ({ cls := "TurnedLandModel", name := "cost", desc := "(II)I" } : Jvm.MethodName) ({ cls := "TurnedLandModel", name := "cost", desc := "(II)I" } : Jvm.MethodName)) ∈ zAll := zAll_t5 188 rfl rfl
set_option maxRecDepth 20000 in
theorem qw_1158 : (Jvm.Cond.methodLink "TurnedLandLaw" (27 : Nat) ({ cls := "TurnedLandModel", name := "join", desc := "(III)I" } : Jvm.MethodName)) ∈ zAll := zAll_t5 198 rfl rfl
set_option maxRecDepth 20000 in
theorem qw_1159 : (Jvm.Cond.instanceMethod ({ cls := "TurnedLandModel", name := "join", desc := "(III)I" } : Jvm.MethodName)) ∈ zAll := zAll_t5 199 rfl rfl
set_option maxRecDepth 20000 in
theorem qw_1160 : (Jvm.Cond.selects "TurnedLandModel" ({ cls := "TurnedLandModel", name := "join", desc := "(III)I" } : Jvm.MethodName) ({ cls := "TurnedLandModel", name := "join", desc := "(III)I" } : Jvm.MethodName)) ∈ zAll := zAll_t5 200 rfl rfl
set_option maxRecDepth 20000 in
theorem qw_1183 : (Jvm.Cond.methodLink "TurnedLandLaw" (31 : Nat) ({ cls := "TurnedLandModel", name := "joinIs", desc := "(II)I" } : Jvm.MethodName)) ∈ zAll := zAll_t5 223 rfl rfl
set_option maxRecDepth 20000 in
theorem qw_1184 : (Jvm.Cond.instanceMethod ({ cls := "TurnedLandModel", name := "joinIs", desc := "(II)I" } : Jvm.MethodName)) ∈ zAll := zAll_t5 224 rfl rfl
set_option maxRecDepth 20000 in
theorem qw_1185 : (Jvm.Cond.selects "TurnedLandModel" ({ cls := "TurnedLandModel", name := "joinIs", desc := "(II)I" } : Jvm.MethodName) ({ cls := "TurnedLandModel", name := "joinIs", desc := "(II)I" } : Jvm.MethodName)) ∈ zAll := zAll_t5 225 rfl rfl
set_option maxRecDepth 20000 in
theorem qw_1187 : (Jvm.Cond.methodLink "TurnedLandLaw" (35 : Nat) ({ cls := "TurnedLandModel", name := "turn", desc := "(II)I" } : Jvm.MethodName)) ∈ zAll := zAll_t5 227 rfl rfl
set_option maxRecDepth 20000 in
theorem qw_1188 : (Jvm.Cond.instanceMethod ({ cls := "TurnedLandModel", name := "turn", desc := "(II)I" } : Jvm.MethodName)) ∈ zAll := zAll_t5 228 rfl rfl
set_option maxRecDepth 20000 in
theorem qw_1189 : (Jvm.Cond.selects "TurnedLandModel" ({ cls := "TurnedLandModel", name := "turn", desc := "(II)I" } : Jvm.MethodName) ({ cls := "TurnedLandModel", name := "turn", desc := "(II)I" } : Jvm.MethodName)) ∈ zAll := zAll_t5 229 rfl rfl
set_option maxRecDepth 20000 in
theorem qw_1191 : (Jvm.Cond.methodLink "TurnedLandLaw" (40 : Nat) ({ cls := "TurnedLandModel", name := "part", desc := "()I" } : Jvm.MethodName)) ∈ zAll := zAll_t5 231 rfl rfl
set_option maxRecDepth 20000 in
theorem qw_1192 : (Jvm.Cond.instanceMethod ({ cls := "TurnedLandModel", name := "part", desc := "()I" } : Jvm.MethodName)) ∈ zAll := zAll_t5 232 rfl rfl
set_option maxRecDepth 20000 in
theorem qw_1193 : (Jvm.Cond.selects "TurnedLandModel" ({ cls := "TurnedLandModel", name := "part", desc := "()I" } : Jvm.MethodName) ({ cls := "TurnedLandModel", name := "part", desc := "()I" } : Jvm.MethodName)) ∈ zAll := zAll_t5 233 rfl rfl
set_option maxRecDepth 20000 in
theorem qw_1195 : (Jvm.Cond.methodLink "TurnedLandLaw" (44 : Nat) ({ cls := "TurnedLandModel", name := "across", desc := "(I)I" } : Jvm.MethodName)) ∈ zAll := zAll_t5 235 rfl rfl
set_option maxRecDepth 20000 in
theorem qw_1196 : (Jvm.Cond.instanceMethod ({ cls := "TurnedLandModel", name := "across", desc := "(I)I" } : Jvm.MethodName)) ∈ zAll := zAll_t5 236 rfl rfl
set_option maxRecDepth 20000 in
theorem qw_1197 : (Jvm.Cond.selects "TurnedLandModel" ({ cls := "TurnedLandModel", name := "across", desc := "(I)I" } : Jvm.MethodName) ({ cls := "TurnedLandModel", name := "across", desc := "(I)I" } : Jvm.MethodName)) ∈ zAll := zAll_t5 237 rfl rfl
set_option maxRecDepth 20000 in
theorem qw_1204 : (Jvm.Cond.methodLink "TurnedLandLaw" (48 : Nat) ({ cls := "TurnedLandModel", name := "land", desc := "(I)I" } : Jvm.MethodName)) ∈ zAll := zAll_t6 4 rfl rfl
set_option maxRecDepth 20000 in
theorem qw_1205 : (Jvm.Cond.instanceMethod ({ cls := "TurnedLandModel", name := "land", desc := "(I)I" } : Jvm.MethodName)) ∈ zAll := zAll_t6 5 rfl rfl
set_option maxRecDepth 20000 in
theorem qw_1206 : (Jvm.Cond.selects "TurnedLandModel" ({ cls := "TurnedLandModel", name := "land", desc := "(I)I" } : Jvm.MethodName) ({ cls := "TurnedLandModel", name := "land", desc := "(I)I" } : Jvm.MethodName)) ∈ zAll := zAll_t6 6 rfl rfl
set_option maxRecDepth 20000 in
theorem qw_1248 : (Jvm.Cond.methodLink "TurnedLandLaw" (52 : Nat) ({ cls := "TurnedLandModel", name := "plain", desc := "()I" } : Jvm.MethodName)) ∈ zAll := zAll_t6 48 rfl rfl
set_option maxRecDepth 20000 in
theorem qw_1249 : (Jvm.Cond.instanceMethod ({ cls := "TurnedLandModel", name := "plain", desc := "()I" } : Jvm.MethodName)) ∈ zAll := zAll_t6 49 rfl rfl
set_option maxRecDepth 20000 in
theorem qw_1250 : (Jvm.Cond.selects "TurnedLandModel" ({ cls := "TurnedLandModel", name := "plain", desc := "()I" } : Jvm.MethodName) ({ cls := "TurnedLandModel", name := "plain", desc := "()I" } : Jvm.MethodName)) ∈ zAll := zAll_t6 50 rfl rfl
set_option maxRecDepth 20000 in
theorem qw_1252 : (Jvm.Cond.methodLink "TurnedLandLaw" (59 : Nat) ({ cls := "TurnedLandModel", name := "feed", desc := "(JI)I" } : Jvm.MethodName)) ∈ zAll := zAll_t6 52 rfl rfl
set_option maxRecDepth 20000 in
theorem qw_1253 : (Jvm.Cond.instanceMethod ({ cls := "TurnedLandModel", name := "feed", desc := "(JI)I" } : Jvm.MethodName)) ∈ zAll := zAll_t6 53 rfl rfl
set_option maxRecDepth 20000 in
theorem qw_1254 : (Jvm.Cond.selects "TurnedLandModel" ({ cls := "TurnedLandModel", name := "feed", desc := "(JI)I" } : Jvm.MethodName) ({ cls := "TurnedLandModel", name := "feed", desc := "(JI)I" } : Jvm.MethodName)) ∈ zAll := zAll_t6 54 rfl rfl
set_option maxRecDepth 20000 in
theorem qw_1257 : (Jvm.Cond.methodLink "TurnedLandLaw" (63 : Nat) ({ cls := "TurnedLandModel", name := "text", desc := "(I)I" } : Jvm.MethodName)) ∈ zAll := zAll_t6 57 rfl rfl
set_option maxRecDepth 20000 in
theorem qw_1258 : (Jvm.Cond.instanceMethod ({ cls := "TurnedLandModel", name := "text", desc := "(I)I" } : Jvm.MethodName)) ∈ zAll := zAll_t6 58 rfl rfl
set_option maxRecDepth 20000 in
theorem qw_1259 : (Jvm.Cond.selects "TurnedLandModel" ({ cls := "TurnedLandModel", name := "text", desc := "(I)I" } : Jvm.MethodName) ({ cls := "TurnedLandModel", name := "text", desc := "(I)I" } : Jvm.MethodName)) ∈ zAll := zAll_t6 59 rfl rfl
set_option maxRecDepth 20000 in
theorem qw_1349 : (Jvm.Cond.methodLink "TurnedLandLaw" (67 : Nat) ({ cls := "TurnedLandModel", name := "untell", desc := "(I)I" } : Jvm.MethodName)) ∈ zAll := zAll_t6 149 rfl rfl
set_option maxRecDepth 20000 in
theorem qw_1350 : (Jvm.Cond.instanceMethod ({ cls := "TurnedLandModel", name := "untell", desc := "(I)I" } : Jvm.MethodName)) ∈ zAll := zAll_t6 150 rfl rfl
set_option maxRecDepth 20000 in
theorem qw_1351 : (Jvm.Cond.selects "TurnedLandModel" ({ cls := "TurnedLandModel", name := "untell", desc := "(I)I" } : Jvm.MethodName) ({ cls := "TurnedLandModel", name := "untell", desc := "(I)I" } : Jvm.MethodName)) ∈ zAll := zAll_t6 151 rfl rfl
set_option maxRecDepth 20000 in
theorem qw_1353 : (Jvm.Cond.methodLink "TurnedLandLaw" (71 : Nat) ({ cls := "TurnedLandModel", name := "soonest", desc := "(II)I" } : Jvm.MethodName)) ∈ zAll := zAll_t6 153 rfl rfl
set_option maxRecDepth 20000 in
theorem qw_1354 : (Jvm.Cond.instanceMethod ({ cls := "TurnedLandModel", name := "soonest", desc := "(II)I" } : Jvm.MethodName)) ∈ zAll := zAll_t6 154 rfl rfl
set_option maxRecDepth 20000 in
theorem qw_1355 : (Jvm.Cond.selects "TurnedLandModel" ({ cls := "TurnedLandModel", name := "soonest", desc := "(II)I" } : Jvm.MethodName) ({ cls := "TurnedLandModel", name := "soonest", desc := "(II)I" } : Jvm.MethodName)) ∈ zAll := zAll_t6 155 rfl rfl
set_option maxRecDepth 20000 in
theorem qw_1388 : (Jvm.Cond.methodLink "TurnedLandLaw" (75 : Nat) ({ cls := "TurnedLandModel", name := "reached", desc := "(I)I" } : Jvm.MethodName)) ∈ zAll := zAll_t6 188 rfl rfl
set_option maxRecDepth 20000 in
theorem qw_1389 : (Jvm.Cond.instanceMethod ({ cls := "TurnedLandModel", name := "reached", desc := "(I)I" } : Jvm.MethodName)) ∈ zAll := zAll_t6 189 rfl rfl
set_option maxRecDepth 20000 in
theorem qw_1390 : (Jvm.Cond.selects "TurnedLandModel" ({ cls := "TurnedLandModel", name := "reached", desc := "(I)I" } : Jvm.MethodName) ({ cls := "TurnedLandModel", name := "reached", desc := "(I)I" } : Jvm.MethodName)) ∈ zAll := zAll_t6 190 rfl rfl
set_option maxRecDepth 20000 in
theorem qw_1392 : (Jvm.Cond.methodLink "TurnedLandLaw" (79 : Nat) ({ cls := "TurnedLandModel", name := "first", desc := "(II)I" } : Jvm.MethodName)) ∈ zAll := zAll_t6 192 rfl rfl
set_option maxRecDepth 20000 in
theorem qw_1393 : (Jvm.Cond.instanceMethod ({ cls := "TurnedLandModel", name := "first", desc := "(II)I" } : Jvm.MethodName)) ∈ zAll := zAll_t6 193 rfl rfl
set_option maxRecDepth 20000 in
theorem qw_1394 : (Jvm.Cond.selects "TurnedLandModel" ({ cls := "TurnedLandModel", name := "first", desc := "(II)I" } : Jvm.MethodName) ({ cls := "TurnedLandModel", name := "first", desc := "(II)I" } : Jvm.MethodName)) ∈ zAll := zAll_t6 194 rfl rfl
set_option maxRecDepth 20000 in
theorem qw_1400 : (Jvm.Cond.methodLink "TurnedLandLaw" (83 : Nat) ({ cls := "TurnedLandModel", name := "walk", desc := "(III)I" } : Jvm.MethodName)) ∈ zAll := zAll_t6 200 rfl rfl
set_option maxRecDepth 20000 in
theorem qw_1401 : (Jvm.Cond.instanceMethod ({ cls := "TurnedLandModel", name := "walk", desc := "(III)I" } : Jvm.MethodName)) ∈ zAll := zAll_t6 201 rfl rfl
set_option maxRecDepth 20000 in
theorem qw_1402 : (Jvm.Cond.selects "TurnedLandModel" ({ cls := "TurnedLandModel", name := "walk", desc := "(III)I" } : Jvm.MethodName) ({ cls := "TurnedLandModel", name := "walk", desc := "(III)I" } : Jvm.MethodName)) ∈ zAll := zAll_t6 202 rfl rfl
set_option maxRecDepth 20000 in
theorem qw_1404 : (Jvm.Cond.methodLink "TurnedLandLaw" (87 : Nat) ({ cls := "TurnedLandModel", name := "walkIs", desc := "(II)I" } : Jvm.MethodName)) ∈ zAll := zAll_t6 204 rfl rfl
set_option maxRecDepth 20000 in
theorem qw_1405 : (Jvm.Cond.instanceMethod ({ cls := "TurnedLandModel", name := "walkIs", desc := "(II)I" } : Jvm.MethodName)) ∈ zAll := zAll_t6 205 rfl rfl
set_option maxRecDepth 20000 in
theorem qw_1406 : (Jvm.Cond.selects "TurnedLandModel" ({ cls := "TurnedLandModel", name := "walkIs", desc := "(II)I" } : Jvm.MethodName) ({ cls := "TurnedLandModel", name := "walkIs", desc := "(II)I" } : Jvm.MethodName)) ∈ zAll := zAll_t6 206 rfl rfl
set_option maxRecDepth 20000 in
theorem qw_1420 : (Jvm.Cond.methodLink "TurnedLandLaw" (91 : Nat) ({ cls := "TurnedLandModel", name := "as", desc := "(II)I" } : Jvm.MethodName)) ∈ zAll := zAll_t6 220 rfl rfl
set_option maxRecDepth 20000 in
theorem qw_1421 : (Jvm.Cond.instanceMethod ({ cls := "TurnedLandModel", name := "as", desc := "(II)I" } : Jvm.MethodName)) ∈ zAll := zAll_t6 221 rfl rfl
set_option maxRecDepth 20000 in
theorem qw_1422 : (Jvm.Cond.selects "TurnedLandModel" ({ cls := "TurnedLandModel", name := "as", desc := "(II)I" } : Jvm.MethodName) ({ cls := "TurnedLandModel", name := "as", desc := "(II)I" } : Jvm.MethodName)) ∈ zAll := zAll_t6 222 rfl rfl
set_option maxRecDepth 20000 in
theorem qw_1428 : (Jvm.Cond.methodLink "TurnedLandLaw" (95 : Nat) ({ cls := "TurnedLandModel", name := "set", desc := "(III)I" } : Jvm.MethodName)) ∈ zAll := zAll_t6 228 rfl rfl
set_option maxRecDepth 20000 in
theorem qw_1429 : (Jvm.Cond.instanceMethod ({ cls := "TurnedLandModel", name := "set", desc := "(III)I" } : Jvm.MethodName)) ∈ zAll := zAll_t6 229 rfl rfl
set_option maxRecDepth 20000 in
theorem qw_1430 : (Jvm.Cond.selects "TurnedLandModel" ({ cls := "TurnedLandModel", name := "set", desc := "(III)I" } : Jvm.MethodName) ({ cls := "TurnedLandModel", name := "set", desc := "(III)I" } : Jvm.MethodName)) ∈ zAll := zAll_t6 230 rfl rfl
set_option maxRecDepth 20000 in
theorem qw_1432 : (Jvm.Cond.methodLink "TurnedLandLaw" (99 : Nat) ({ cls := "TurnedLandModel", name := "gone", desc := "(III)I" } : Jvm.MethodName)) ∈ zAll := zAll_t6 232 rfl rfl
set_option maxRecDepth 20000 in
theorem qw_1433 : (Jvm.Cond.instanceMethod ({ cls := "TurnedLandModel", name := "gone", desc := "(III)I" } : Jvm.MethodName)) ∈ zAll := zAll_t6 233 rfl rfl
set_option maxRecDepth 20000 in
theorem qw_1434 : (Jvm.Cond.selects "TurnedLandModel" ({ cls := "TurnedLandModel", name := "gone", desc := "(III)I" } : Jvm.MethodName) ({ cls := "TurnedLandModel", name := "gone", desc := "(III)I" } : Jvm.MethodName)) ∈ zAll := zAll_t6 234 rfl rfl
set_option maxRecDepth 20000 in
theorem qw_1436 : (Jvm.Cond.methodLink "TurnedLandLaw" (103 : Nat) ({ cls := "TurnedLandModel", name := "stops", desc := "(I)I" } : Jvm.MethodName)) ∈ zAll := zAll_t6 236 rfl rfl
set_option maxRecDepth 20000 in
theorem qw_1437 : (Jvm.Cond.instanceMethod ({ cls := "TurnedLandModel", name := "stops", desc := "(I)I" } : Jvm.MethodName)) ∈ zAll := zAll_t6 237 rfl rfl
set_option maxRecDepth 20000 in
theorem qw_1438 : (Jvm.Cond.selects "TurnedLandModel" ({ cls := "TurnedLandModel", name := "stops", desc := "(I)I" } : Jvm.MethodName) ({ cls := "TurnedLandModel", name := "stops", desc := "(I)I" } : Jvm.MethodName)) ∈ zAll := zAll_t6 238 rfl rfl
set_option maxRecDepth 20000 in
theorem qw_1440 : (Jvm.Cond.methodLink "TurnedLandLaw" (107 : Nat) ({ cls := "TurnedLandModel", name := "person", desc := "(I)I" } : Jvm.MethodName)) ∈ zAll := zAll_t7 0 rfl rfl
set_option maxRecDepth 20000 in
theorem qw_1441 : (Jvm.Cond.instanceMethod ({ cls := "TurnedLandModel", name := "person", desc := "(I)I" } : Jvm.MethodName)) ∈ zAll := zAll_t7 1 rfl rfl
set_option maxRecDepth 20000 in
theorem qw_1442 : (Jvm.Cond.selects "TurnedLandModel" ({ cls := "TurnedLandModel", name := "person", desc := "(I)I" } : Jvm.MethodName) ({ cls := "TurnedLandModel", name := "person", desc := "(I)I" } : Jvm.MethodName)) ∈ zAll := zAll_t7 2 rfl rfl
set_option maxRecDepth 20000 in
theorem qw_1444 : (Jvm.Cond.methodLink "TurnedLandLaw" (111 : Nat) ({ cls := "TurnedLandModel", name := "personIs", desc := "(II)I" } : Jvm.MethodName)) ∈ zAll := zAll_t7 4 rfl rfl
set_option maxRecDepth 20000 in
theorem qw_1445 : (Jvm.Cond.instanceMethod ({ cls := "TurnedLandModel", name := "personIs", desc := "(II)I" } : Jvm.MethodName)) ∈ zAll := zAll_t7 5 rfl rfl
set_option maxRecDepth 20000 in
theorem qw_1446 : (Jvm.Cond.selects "TurnedLandModel" ({ cls := "TurnedLandModel", name := "personIs", desc := "(II)I" } : Jvm.MethodName) ({ cls := "TurnedLandModel", name := "personIs", desc := "(II)I" } : Jvm.MethodName)) ∈ zAll := zAll_t7 6 rfl rfl
set_option maxRecDepth 20000 in
theorem qw_1448 : (Jvm.Cond.methodLink "TurnedLandLaw" (115 : Nat) ({ cls := "TurnedLandModel", name := "cross", desc := "(II)I" } : Jvm.MethodName)) ∈ zAll := zAll_t7 8 rfl rfl
set_option maxRecDepth 20000 in
theorem qw_1449 : (Jvm.Cond.instanceMethod ({ cls := "TurnedLandModel", name := "cross", desc := "(II)I" } : Jvm.MethodName)) ∈ zAll := zAll_t7 9 rfl rfl
set_option maxRecDepth 20000 in
theorem qw_1450 : (Jvm.Cond.selects "TurnedLandModel" ({ cls := "TurnedLandModel", name := "cross", desc := "(II)I" } : Jvm.MethodName) ({ cls := "TurnedLandModel", name := "cross", desc := "(II)I" } : Jvm.MethodName)) ∈ zAll := zAll_t7 10 rfl rfl
set_option maxRecDepth 20000 in
theorem qw_1461 : (Jvm.Cond.methodLink "TurnedLandLaw" (119 : Nat) ({ cls := "TurnedLandModel", name := "stroll", desc := "(II)I" } : Jvm.MethodName)) ∈ zAll := zAll_t7 21 rfl rfl
set_option maxRecDepth 20000 in
theorem qw_1462 : (Jvm.Cond.instanceMethod ({ cls := "TurnedLandModel", name := "stroll", desc := "(II)I" } : Jvm.MethodName)) ∈ zAll := zAll_t7 22 rfl rfl
set_option maxRecDepth 20000 in
theorem qw_1463 : (Jvm.Cond.selects "TurnedLandModel" ({ cls := "TurnedLandModel", name := "stroll", desc := "(II)I" } : Jvm.MethodName) ({ cls := "TurnedLandModel", name := "stroll", desc := "(II)I" } : Jvm.MethodName)) ∈ zAll := zAll_t7 23 rfl rfl
set_option maxRecDepth 20000 in
theorem qw_1470 : (Jvm.Cond.methodLink "TurnedLandLaw" (123 : Nat) ({ cls := "TurnedLandModel", name := "meet", desc := "(III)I" } : Jvm.MethodName)) ∈ zAll := zAll_t7 30 rfl rfl
set_option maxRecDepth 20000 in
theorem qw_1471 : (Jvm.Cond.instanceMethod ({ cls := "TurnedLandModel", name := "meet", desc := "(III)I" } : Jvm.MethodName)) ∈ zAll := zAll_t7 31 rfl rfl
set_option maxRecDepth 20000 in
theorem qw_1472 : (Jvm.Cond.selects "TurnedLandModel" ({ cls := "TurnedLandModel", name := "meet", desc := "(III)I" } : Jvm.MethodName) ({ cls := "TurnedLandModel", name := "meet", desc := "(III)I" } : Jvm.MethodName)) ∈ zAll := zAll_t7 32 rfl rfl
set_option maxRecDepth 20000 in
theorem qw_1474 : (Jvm.Cond.methodLink "TurnedLandLaw" (127 : Nat) ({ cls := "TurnedLandModel", name := "thing", desc := "(III)I" } : Jvm.MethodName)) ∈ zAll := zAll_t7 34 rfl rfl
set_option maxRecDepth 20000 in
theorem qw_1475 : (Jvm.Cond.instanceMethod ({ cls := "TurnedLandModel", name := "thing", desc := "(III)I" } : Jvm.MethodName)) ∈ zAll := zAll_t7 35 rfl rfl
set_option maxRecDepth 20000 in
theorem qw_1476 : (Jvm.Cond.selects "TurnedLandModel" ({ cls := "TurnedLandModel", name := "thing", desc := "(III)I" } : Jvm.MethodName) ({ cls := "TurnedLandModel", name := "thing", desc := "(III)I" } : Jvm.MethodName)) ∈ zAll := zAll_t7 36 rfl rfl
set_option maxRecDepth 20000 in
theorem qw_1478 : (Jvm.Cond.methodLink "TurnedLandLaw" (131 : Nat) ({ cls := "TurnedLandModel", name := "thingIs", desc := "(II)I" } : Jvm.MethodName)) ∈ zAll := zAll_t7 38 rfl rfl
set_option maxRecDepth 20000 in
theorem qw_1479 : (Jvm.Cond.instanceMethod ({ cls := "TurnedLandModel", name := "thingIs", desc := "(II)I" } : Jvm.MethodName)) ∈ zAll := zAll_t7 39 rfl rfl
set_option maxRecDepth 20000 in
theorem qw_1480 : (Jvm.Cond.selects "TurnedLandModel" ({ cls := "TurnedLandModel", name := "thingIs", desc := "(II)I" } : Jvm.MethodName) ({ cls := "TurnedLandModel", name := "thingIs", desc := "(II)I" } : Jvm.MethodName)) ∈ zAll := zAll_t7 40 rfl rfl
set_option maxRecDepth 20000 in
theorem qw_1490 : (Jvm.Cond.methodLink "TurnedLandLaw" (135 : Nat) ({ cls := "TurnedLandModel", name := "bring", desc := "(I)I" } : Jvm.MethodName)) ∈ zAll := zAll_t7 50 rfl rfl
set_option maxRecDepth 20000 in
theorem qw_1491 : (Jvm.Cond.instanceMethod ({ cls := "TurnedLandModel", name := "bring", desc := "(I)I" } : Jvm.MethodName)) ∈ zAll := zAll_t7 51 rfl rfl
set_option maxRecDepth 20000 in
theorem qw_1492 : (Jvm.Cond.selects "TurnedLandModel" ({ cls := "TurnedLandModel", name := "bring", desc := "(I)I" } : Jvm.MethodName) ({ cls := "TurnedLandModel", name := "bring", desc := "(I)I" } : Jvm.MethodName)) ∈ zAll := zAll_t7 52 rfl rfl
set_option maxRecDepth 20000 in
theorem qw_1494 : (Jvm.Cond.methodLink "TurnedLandLaw" (139 : Nat) ({ cls := "TurnedLandModel", name := "doubt", desc := "(I)I" } : Jvm.MethodName)) ∈ zAll := zAll_t7 54 rfl rfl
set_option maxRecDepth 20000 in
theorem qw_1495 : (Jvm.Cond.instanceMethod ({ cls := "TurnedLandModel", name := "doubt", desc := "(I)I" } : Jvm.MethodName)) ∈ zAll := zAll_t7 55 rfl rfl
set_option maxRecDepth 20000 in
theorem qw_1496 : (Jvm.Cond.selects "TurnedLandModel" ({ cls := "TurnedLandModel", name := "doubt", desc := "(I)I" } : Jvm.MethodName) ({ cls := "TurnedLandModel", name := "doubt", desc := "(I)I" } : Jvm.MethodName)) ∈ zAll := zAll_t7 56 rfl rfl
set_option maxRecDepth 20000 in
theorem qw_1501 : (Jvm.Cond.methodLink "TurnedLandLaw" (143 : Nat) ({ cls := "TurnedLandModel", name := "fact", desc := "(II)I" } : Jvm.MethodName)) ∈ zAll := zAll_t7 61 rfl rfl
set_option maxRecDepth 20000 in
theorem qw_1502 : (Jvm.Cond.instanceMethod ({ cls := "TurnedLandModel", name := "fact", desc := "(II)I" } : Jvm.MethodName)) ∈ zAll := zAll_t7 62 rfl rfl
set_option maxRecDepth 20000 in
theorem qw_1503 : (Jvm.Cond.selects "TurnedLandModel" ({ cls := "TurnedLandModel", name := "fact", desc := "(II)I" } : Jvm.MethodName) ({ cls := "TurnedLandModel", name := "fact", desc := "(II)I" } : Jvm.MethodName)) ∈ zAll := zAll_t7 63 rfl rfl
set_option maxRecDepth 20000 in
theorem qw_1505 : (Jvm.Cond.methodLink "TurnedLandLaw" (147 : Nat) ({ cls := "TurnedLandModel", name := "forget", desc := "()I" } : Jvm.MethodName)) ∈ zAll := zAll_t7 65 rfl rfl
set_option maxRecDepth 20000 in
theorem qw_1506 : (Jvm.Cond.instanceMethod ({ cls := "TurnedLandModel", name := "forget", desc := "()I" } : Jvm.MethodName)) ∈ zAll := zAll_t7 66 rfl rfl
set_option maxRecDepth 20000 in
theorem qw_1507 : (Jvm.Cond.selects "TurnedLandModel" ({ cls := "TurnedLandModel", name := "forget", desc := "()I" } : Jvm.MethodName) ({ cls := "TurnedLandModel", name := "forget", desc := "()I" } : Jvm.MethodName)) ∈ zAll := zAll_t7 67 rfl rfl
set_option maxRecDepth 20000 in
theorem qw_1509 : (Jvm.Cond.methodLink "TurnedLandLaw" (151 : Nat) ({ cls := "TurnedLandModel", name := "agree", desc := "()I" } : Jvm.MethodName)) ∈ zAll := zAll_t7 69 rfl rfl
set_option maxRecDepth 20000 in
theorem qw_1510 : (Jvm.Cond.instanceMethod ({ cls := "TurnedLandModel", name := "agree", desc := "()I" } : Jvm.MethodName)) ∈ zAll := zAll_t7 70 rfl rfl
set_option maxRecDepth 20000 in
theorem qw_1511 : (Jvm.Cond.selects "TurnedLandModel" ({ cls := "TurnedLandModel", name := "agree", desc := "()I" } : Jvm.MethodName) ({ cls := "TurnedLandModel", name := "agree", desc := "()I" } : Jvm.MethodName)) ∈ zAll := zAll_t7 71 rfl rfl
set_option maxRecDepth 20000 in
theorem qw_1529 : (Jvm.Cond.methodLink "TurnedLandLaw" (155 : Nat) ({ cls := "TurnedLandModel", name := "known", desc := "(I)I" } : Jvm.MethodName)) ∈ zAll := zAll_t7 89 rfl rfl
set_option maxRecDepth 20000 in
theorem qw_1530 : (Jvm.Cond.instanceMethod ({ cls := "TurnedLandModel", name := "known", desc := "(I)I" } : Jvm.MethodName)) ∈ zAll := zAll_t7 90 rfl rfl
set_option maxRecDepth 20000 in
theorem qw_1531 : (Jvm.Cond.selects "TurnedLandModel" ({ cls := "TurnedLandModel", name := "known", desc := "(I)I" } : Jvm.MethodName) ({ cls := "TurnedLandModel", name := "known", desc := "(I)I" } : Jvm.MethodName)) ∈ zAll := zAll_t7 91 rfl rfl
set_option maxRecDepth 20000 in
theorem qw_1533 : (Jvm.Cond.methodLink "TurnedLandLaw" (159 : Nat) ({ cls := "TurnedLandModel", name := "test", desc := "()I" } : Jvm.MethodName)) ∈ zAll := zAll_t7 93 rfl rfl
set_option maxRecDepth 20000 in
theorem qw_1534 : (Jvm.Cond.instanceMethod ({ cls := "TurnedLandModel", name := "test", desc := "()I" } : Jvm.MethodName)) ∈ zAll := zAll_t7 94 rfl rfl
set_option maxRecDepth 20000 in
theorem qw_1535 : (Jvm.Cond.selects "TurnedLandModel" ({ cls := "TurnedLandModel", name := "test", desc := "()I" } : Jvm.MethodName) ({ cls := "TurnedLandModel", name := "test", desc := "()I" } : Jvm.MethodName)) ∈ zAll := zAll_t7 95 rfl rfl
set_option maxRecDepth 20000 in
theorem qw_1537 : (Jvm.Cond.methodLink "TurnedLandLaw" (163 : Nat) ({ cls := "TurnedLandModel", name := "seed", desc := "(I)I" } : Jvm.MethodName)) ∈ zAll := zAll_t7 97 rfl rfl
set_option maxRecDepth 20000 in
theorem qw_1538 : (Jvm.Cond.instanceMethod ({ cls := "TurnedLandModel", name := "seed", desc := "(I)I" } : Jvm.MethodName)) ∈ zAll := zAll_t7 98 rfl rfl
set_option maxRecDepth 20000 in
theorem qw_1539 : (Jvm.Cond.selects "TurnedLandModel" ({ cls := "TurnedLandModel", name := "seed", desc := "(I)I" } : Jvm.MethodName) ({ cls := "TurnedLandModel", name := "seed", desc := "(I)I" } : Jvm.MethodName)) ∈ zAll := zAll_t7 99 rfl rfl
set_option maxRecDepth 20000 in
theorem qw_1541 : (Jvm.Cond.methodLink "TurnedLandLaw" (167 : Nat) ({ cls := "TurnedLandModel", name := "voice", desc := "(III)I" } : Jvm.MethodName)) ∈ zAll := zAll_t7 101 rfl rfl
set_option maxRecDepth 20000 in
theorem qw_1542 : (Jvm.Cond.instanceMethod ({ cls := "TurnedLandModel", name := "voice", desc := "(III)I" } : Jvm.MethodName)) ∈ zAll := zAll_t7 102 rfl rfl
set_option maxRecDepth 20000 in
theorem qw_1543 : (Jvm.Cond.selects "TurnedLandModel" ({ cls := "TurnedLandModel", name := "voice", desc := "(III)I" } : Jvm.MethodName) ({ cls := "TurnedLandModel", name := "voice", desc := "(III)I" } : Jvm.MethodName)) ∈ zAll := zAll_t7 103 rfl rfl
set_option maxRecDepth 20000 in
theorem qw_1565 : (Jvm.Cond.methodLink "TurnedLandLaw" (171 : Nat) ({ cls := "TurnedLandModel", name := "body", desc := "(I)I" } : Jvm.MethodName)) ∈ zAll := zAll_t7 125 rfl rfl
set_option maxRecDepth 20000 in
theorem qw_1566 : (Jvm.Cond.instanceMethod ({ cls := "TurnedLandModel", name := "body", desc := "(I)I" } : Jvm.MethodName)) ∈ zAll := zAll_t7 126 rfl rfl
set_option maxRecDepth 20000 in
theorem qw_1567 : (Jvm.Cond.selects "TurnedLandModel" ({ cls := "TurnedLandModel", name := "body", desc := "(I)I" } : Jvm.MethodName) ({ cls := "TurnedLandModel", name := "body", desc := "(I)I" } : Jvm.MethodName)) ∈ zAll := zAll_t7 127 rfl rfl
set_option maxRecDepth 20000 in
theorem qw_1569 : (Jvm.Cond.methodLink "TurnedLandLaw" (175 : Nat) ({ cls := "TurnedLandModel", name := "sheet", desc := "(III)I" } : Jvm.MethodName)) ∈ zAll := zAll_t7 129 rfl rfl
set_option maxRecDepth 20000 in
theorem qw_1570 : (Jvm.Cond.instanceMethod ({ cls := "TurnedLandModel", name := "sheet", desc := "(III)I" } : Jvm.MethodName)) ∈ zAll := zAll_t7 130 rfl rfl
set_option maxRecDepth 20000 in
theorem qw_1571 : (Jvm.Cond.selects "TurnedLandModel" ({ cls := "TurnedLandModel", name := "sheet", desc := "(III)I" } : Jvm.MethodName) ({ cls := "TurnedLandModel", name := "sheet", desc := "(III)I" } : Jvm.MethodName)) ∈ zAll := zAll_t7 131 rfl rfl
set_option maxRecDepth 20000 in
theorem qw_1576 : (Jvm.Cond.methodLink "TurnedLandLaw" (179 : Nat) ({ cls := "TurnedLandModel", name := "put", desc := "(III)I" } : Jvm.MethodName)) ∈ zAll := zAll_t7 136 rfl rfl
set_option maxRecDepth 20000 in
theorem qw_1577 : (Jvm.Cond.instanceMethod ({ cls := "TurnedLandModel", name := "put", desc := "(III)I" } : Jvm.MethodName)) ∈ zAll := zAll_t7 137 rfl rfl
set_option maxRecDepth 20000 in
theorem qw_1578 : (Jvm.Cond.selects "TurnedLandModel" ({ cls := "TurnedLandModel", name := "put", desc := "(III)I" } : Jvm.MethodName) ({ cls := "TurnedLandModel", name := "put", desc := "(III)I" } : Jvm.MethodName)) ∈ zAll := zAll_t7 138 rfl rfl
set_option maxRecDepth 20000 in
theorem qw_1580 : (Jvm.Cond.methodLink "TurnedLandLaw" (184 : Nat) ({ cls := "TurnedLandModel", name := "move", desc := "(IIIII)I" } : Jvm.MethodName)) ∈ zAll := zAll_t7 140 rfl rfl
set_option maxRecDepth 20000 in
theorem qw_1581 : (Jvm.Cond.instanceMethod ({ cls := "TurnedLandModel", name := "move", desc := "(IIIII)I" } : Jvm.MethodName)) ∈ zAll := zAll_t7 141 rfl rfl
set_option maxRecDepth 20000 in
theorem qw_1582 : (Jvm.Cond.selects "TurnedLandModel" ({ cls := "TurnedLandModel", name := "move", desc := "(IIIII)I" } : Jvm.MethodName) ({ cls := "TurnedLandModel", name := "move", desc := "(IIIII)I" } : Jvm.MethodName)) ∈ zAll := zAll_t7 142 rfl rfl
set_option maxRecDepth 20000 in
theorem qw_1584 : (Jvm.Cond.methodLink "TurnedLandLaw" (188 : Nat) ({ cls := "TurnedLandModel", name := "joins", desc := "(I)I" } : Jvm.MethodName)) ∈ zAll := zAll_t7 144 rfl rfl
set_option maxRecDepth 20000 in
theorem qw_1585 : (Jvm.Cond.instanceMethod ({ cls := "TurnedLandModel", name := "joins", desc := "(I)I" } : Jvm.MethodName)) ∈ zAll := zAll_t7 145 rfl rfl
set_option maxRecDepth 20000 in
theorem qw_1586 : (Jvm.Cond.selects "TurnedLandModel" ({ cls := "TurnedLandModel", name := "joins", desc := "(I)I" } : Jvm.MethodName) ({ cls := "TurnedLandModel", name := "joins", desc := "(I)I" } : Jvm.MethodName)) ∈ zAll := zAll_t7 146 rfl rfl
set_option maxRecDepth 20000 in
theorem qw_1588 : (Jvm.Cond.methodLink "TurnedLandLaw" (192 : Nat) ({ cls := "TurnedLandModel", name := "image", desc := "()I" } : Jvm.MethodName)) ∈ zAll := zAll_t7 148 rfl rfl
set_option maxRecDepth 20000 in
theorem qw_1589 : (Jvm.Cond.instanceMethod ({ cls := "TurnedLandModel", name := "image", desc := "()I" } : Jvm.MethodName)) ∈ zAll := zAll_t7 149 rfl rfl
set_option maxRecDepth 20000 in
theorem qw_1590 : (Jvm.Cond.selects "TurnedLandModel" ({ cls := "TurnedLandModel", name := "image", desc := "()I" } : Jvm.MethodName) ({ cls := "TurnedLandModel", name := "image", desc := "()I" } : Jvm.MethodName)) ∈ zAll := zAll_t7 150 rfl rfl
set_option maxRecDepth 20000 in
theorem qw_1595 : (Jvm.Cond.methodLink "TurnedLandLaw" (196 : Nat) ({ cls := "TurnedLandModel", name := "restore", desc := "()I" } : Jvm.MethodName)) ∈ zAll := zAll_t7 155 rfl rfl
set_option maxRecDepth 20000 in
theorem qw_1596 : (Jvm.Cond.instanceMethod ({ cls := "TurnedLandModel", name := "restore", desc := "()I" } : Jvm.MethodName)) ∈ zAll := zAll_t7 156 rfl rfl
set_option maxRecDepth 20000 in
theorem qw_1597 : (Jvm.Cond.selects "TurnedLandModel" ({ cls := "TurnedLandModel", name := "restore", desc := "()I" } : Jvm.MethodName) ({ cls := "TurnedLandModel", name := "restore", desc := "()I" } : Jvm.MethodName)) ∈ zAll := zAll_t7 157 rfl rfl
set_option maxRecDepth 20000 in
theorem qw_1599 : (Jvm.Cond.methodLink "TurnedLandLaw" (200 : Nat) ({ cls := "TurnedLandModel", name := "tell", desc := "(I)I" } : Jvm.MethodName)) ∈ zAll := zAll_t7 159 rfl rfl
set_option maxRecDepth 20000 in
theorem qw_1600 : (Jvm.Cond.instanceMethod ({ cls := "TurnedLandModel", name := "tell", desc := "(I)I" } : Jvm.MethodName)) ∈ zAll := zAll_t7 160 rfl rfl
set_option maxRecDepth 20000 in
theorem qw_1601 : (Jvm.Cond.selects "TurnedLandModel" ({ cls := "TurnedLandModel", name := "tell", desc := "(I)I" } : Jvm.MethodName) ({ cls := "TurnedLandModel", name := "tell", desc := "(I)I" } : Jvm.MethodName)) ∈ zAll := zAll_t7 161 rfl rfl
set_option maxRecDepth 20000 in
theorem qw_1603 : (Jvm.Cond.methodLink "TurnedLandLaw" (204 : Nat) ({ cls := "TurnedLandModel", name := "check", desc := "(I)I" } : Jvm.MethodName)) ∈ zAll := zAll_t7 163 rfl rfl
set_option maxRecDepth 20000 in
theorem qw_1604 : (Jvm.Cond.instanceMethod ({ cls := "TurnedLandModel", name := "check", desc := "(I)I" } : Jvm.MethodName)) ∈ zAll := zAll_t7 164 rfl rfl
set_option maxRecDepth 20000 in
theorem qw_1605 : (Jvm.Cond.selects "TurnedLandModel" ({ cls := "TurnedLandModel", name := "check", desc := "(I)I" } : Jvm.MethodName) ({ cls := "TurnedLandModel", name := "check", desc := "(I)I" } : Jvm.MethodName)) ∈ zAll := zAll_t7 165 rfl rfl
set_option maxRecDepth 20000 in
theorem qw_1607 : (Jvm.Cond.methodLink "TurnedLandLaw" (208 : Nat) ({ cls := "TurnedLandModel", name := "count", desc := "(I)I" } : Jvm.MethodName)) ∈ zAll := zAll_t7 167 rfl rfl
set_option maxRecDepth 20000 in
theorem qw_1608 : (Jvm.Cond.instanceMethod ({ cls := "TurnedLandModel", name := "count", desc := "(I)I" } : Jvm.MethodName)) ∈ zAll := zAll_t7 168 rfl rfl
set_option maxRecDepth 20000 in
theorem qw_1609 : (Jvm.Cond.selects "TurnedLandModel" ({ cls := "TurnedLandModel", name := "count", desc := "(I)I" } : Jvm.MethodName) ({ cls := "TurnedLandModel", name := "count", desc := "(I)I" } : Jvm.MethodName)) ∈ zAll := zAll_t7 169 rfl rfl
set_option maxRecDepth 20000 in
theorem qw_1611 : (Jvm.Cond.methodLink "TurnedLandLaw" (212 : Nat) ({ cls := "TurnedLandModel", name := "told", desc := "(I)I" } : Jvm.MethodName)) ∈ zAll := zAll_t7 171 rfl rfl
set_option maxRecDepth 20000 in
theorem qw_1612 : (Jvm.Cond.instanceMethod ({ cls := "TurnedLandModel", name := "told", desc := "(I)I" } : Jvm.MethodName)) ∈ zAll := zAll_t7 172 rfl rfl
set_option maxRecDepth 20000 in
theorem qw_1613 : (Jvm.Cond.selects "TurnedLandModel" ({ cls := "TurnedLandModel", name := "told", desc := "(I)I" } : Jvm.MethodName) ({ cls := "TurnedLandModel", name := "told", desc := "(I)I" } : Jvm.MethodName)) ∈ zAll := zAll_t7 173 rfl rfl
set_option maxRecDepth 20000 in
theorem qw_1615 : (Jvm.Cond.constantLong "TurnedLandLaw" (53 : Nat) (4294967295 : Int64)) ∈ zAll := zAll_t7 175 rfl rfl
theorem dl_0 : zD code 0 (.new 7) 3 3 := ⟨by decide +kernel, rfl⟩
theorem dl_3 : zD code 3 (.dup) 1 4 := ⟨by decide +kernel, rfl⟩
theorem dl_4 : zD code 4 (.invokespecial 9) 3 7 := ⟨by decide +kernel, rfl⟩
theorem dl_7 : zD code 7 (.astore_n 1) 1 8 := ⟨by decide +kernel, rfl⟩
theorem dl_8 : zD code 8 (.new 10) 3 11 := ⟨by decide +kernel, rfl⟩
theorem dl_11 : zD code 11 (.dup) 1 12 := ⟨by decide +kernel, rfl⟩
theorem dl_12 : zD code 12 (.invokespecial 12) 3 15 := ⟨by decide +kernel, rfl⟩
theorem dl_15 : zD code 15 (.astore_n 2) 1 16 := ⟨by decide +kernel, rfl⟩
theorem dl_16 : zD code 16 (.iconst 0) 1 17 := ⟨by decide +kernel, rfl⟩
theorem dl_17 : zD code 17 (.istore_n 3) 1 18 := ⟨by decide +kernel, rfl⟩
theorem dl_18 : zD code 18 (.iload_n 3) 1 19 := ⟨by decide +kernel, rfl⟩
theorem dl_19 : zD code 19 (.aload_n 0) 1 20 := ⟨by decide +kernel, rfl⟩
theorem dl_20 : zD code 20 (.arraylength) 1 21 := ⟨by decide +kernel, rfl⟩
theorem dl_21 : zD code 21 (.bipush 6) 2 23 := ⟨by decide +kernel, rfl⟩
theorem dl_23 : zD code 23 (.isub) 1 24 := ⟨by decide +kernel, rfl⟩
theorem dl_24 : zD code 24 (.if_icmp .gt 1636) 3 27 := ⟨by decide +kernel, rfl⟩
theorem dl_27 : zD code 27 (.aload_n 0) 1 28 := ⟨by decide +kernel, rfl⟩
theorem dl_28 : zD code 28 (.iload_n 3) 1 29 := ⟨by decide +kernel, rfl⟩
theorem dl_29 : zD code 29 (.iaload) 1 30 := ⟨by decide +kernel, rfl⟩
theorem dl_30 : zD code 30 (.bipush 63) 2 32 := ⟨by decide +kernel, rfl⟩
theorem dl_32 : zD code 32 (.iand) 1 33 := ⟨by decide +kernel, rfl⟩
theorem dl_33 : zD code 33 (.tableswitch 1621 0 47 #[207, 230, 263, 306, 339, 372, 385, 408, 431, 444, 507, 530, 553, 586, 609, 642, 685, 718, 751, 794, 837, 860, 883, 916, 949, 982, 1025, 1068, 1101, 1124, 1147, 1180, 1193, 1206, 1229, 1242, 1265, 1308, 1331, 1374, 1417, 1480, 1503, 1516, 1529, 1552, 1575, 1598]) 207 240 := ⟨by decide +kernel, rfl⟩
theorem dl_240 : zD code 240 (.aload_n 1) 1 241 := ⟨by decide +kernel, rfl⟩
theorem dl_241 : zD code 241 (.aload_n 0) 1 242 := ⟨by decide +kernel, rfl⟩
theorem dl_242 : zD code 242 (.iload_n 3) 1 243 := ⟨by decide +kernel, rfl⟩
theorem dl_243 : zD code 243 (.iconst 1) 1 244 := ⟨by decide +kernel, rfl⟩
theorem dl_244 : zD code 244 (.iadd) 1 245 := ⟨by decide +kernel, rfl⟩
theorem dl_245 : zD code 245 (.iaload) 1 246 := ⟨by decide +kernel, rfl⟩
theorem dl_246 : zD code 246 (.invokevirtual 13) 3 249 := ⟨by decide +kernel, rfl⟩
theorem dl_249 : zD code 249 (.aload_n 2) 1 250 := ⟨by decide +kernel, rfl⟩
theorem dl_250 : zD code 250 (.aload_n 0) 1 251 := ⟨by decide +kernel, rfl⟩
theorem dl_251 : zD code 251 (.iload_n 3) 1 252 := ⟨by decide +kernel, rfl⟩
theorem dl_252 : zD code 252 (.iconst 1) 1 253 := ⟨by decide +kernel, rfl⟩
theorem dl_253 : zD code 253 (.iadd) 1 254 := ⟨by decide +kernel, rfl⟩
theorem dl_254 : zD code 254 (.iaload) 1 255 := ⟨by decide +kernel, rfl⟩
theorem dl_255 : zD code 255 (.invokevirtual 17) 3 258 := ⟨by decide +kernel, rfl⟩
theorem dl_258 : zD code 258 (.if_icmp .eq 1396) 3 261 := ⟨by decide +kernel, rfl⟩
theorem dl_261 : zD code 261 (.iconst 0) 1 262 := ⟨by decide +kernel, rfl⟩
theorem dl_262 : zD code 262 (.ireturn) 1 263 := ⟨by decide +kernel, rfl⟩
theorem dl_263 : zD code 263 (.aload_n 1) 1 264 := ⟨by decide +kernel, rfl⟩
theorem dl_264 : zD code 264 (.aload_n 0) 1 265 := ⟨by decide +kernel, rfl⟩
theorem dl_265 : zD code 265 (.iload_n 3) 1 266 := ⟨by decide +kernel, rfl⟩
theorem dl_266 : zD code 266 (.iconst 1) 1 267 := ⟨by decide +kernel, rfl⟩
theorem dl_267 : zD code 267 (.iadd) 1 268 := ⟨by decide +kernel, rfl⟩
theorem dl_268 : zD code 268 (.iaload) 1 269 := ⟨by decide +kernel, rfl⟩
theorem dl_269 : zD code 269 (.aload_n 0) 1 270 := ⟨by decide +kernel, rfl⟩
theorem dl_270 : zD code 270 (.iload_n 3) 1 271 := ⟨by decide +kernel, rfl⟩
theorem dl_271 : zD code 271 (.iconst 2) 1 272 := ⟨by decide +kernel, rfl⟩
theorem dl_272 : zD code 272 (.iadd) 1 273 := ⟨by decide +kernel, rfl⟩
theorem dl_273 : zD code 273 (.iaload) 1 274 := ⟨by decide +kernel, rfl⟩
theorem dl_274 : zD code 274 (.invokevirtual 18) 3 277 := ⟨by decide +kernel, rfl⟩
theorem dl_277 : zD code 277 (.aload_n 2) 1 278 := ⟨by decide +kernel, rfl⟩
theorem dl_278 : zD code 278 (.aload_n 0) 1 279 := ⟨by decide +kernel, rfl⟩
theorem dl_279 : zD code 279 (.iload_n 3) 1 280 := ⟨by decide +kernel, rfl⟩
theorem dl_280 : zD code 280 (.iconst 1) 1 281 := ⟨by decide +kernel, rfl⟩
theorem dl_281 : zD code 281 (.iadd) 1 282 := ⟨by decide +kernel, rfl⟩
theorem dl_282 : zD code 282 (.iaload) 1 283 := ⟨by decide +kernel, rfl⟩
theorem dl_283 : zD code 283 (.aload_n 0) 1 284 := ⟨by decide +kernel, rfl⟩
theorem dl_284 : zD code 284 (.iload_n 3) 1 285 := ⟨by decide +kernel, rfl⟩
theorem dl_285 : zD code 285 (.iconst 2) 1 286 := ⟨by decide +kernel, rfl⟩
theorem dl_286 : zD code 286 (.iadd) 1 287 := ⟨by decide +kernel, rfl⟩
theorem dl_287 : zD code 287 (.iaload) 1 288 := ⟨by decide +kernel, rfl⟩
theorem dl_288 : zD code 288 (.invokevirtual 22) 3 291 := ⟨by decide +kernel, rfl⟩
theorem dl_291 : zD code 291 (.if_icmp .eq 1363) 3 294 := ⟨by decide +kernel, rfl⟩
theorem dl_294 : zD code 294 (.iconst 0) 1 295 := ⟨by decide +kernel, rfl⟩
theorem dl_295 : zD code 295 (.ireturn) 1 296 := ⟨by decide +kernel, rfl⟩
theorem dl_296 : zD code 296 (.aload_n 1) 1 297 := ⟨by decide +kernel, rfl⟩
theorem dl_297 : zD code 297 (.aload_n 0) 1 298 := ⟨by decide +kernel, rfl⟩
theorem dl_298 : zD code 298 (.iload_n 3) 1 299 := ⟨by decide +kernel, rfl⟩
theorem dl_299 : zD code 299 (.iconst 1) 1 300 := ⟨by decide +kernel, rfl⟩
theorem dl_300 : zD code 300 (.iadd) 1 301 := ⟨by decide +kernel, rfl⟩
theorem dl_301 : zD code 301 (.iaload) 1 302 := ⟨by decide +kernel, rfl⟩
theorem dl_302 : zD code 302 (.aload_n 0) 1 303 := ⟨by decide +kernel, rfl⟩
theorem dl_303 : zD code 303 (.iload_n 3) 1 304 := ⟨by decide +kernel, rfl⟩
theorem dl_304 : zD code 304 (.iconst 2) 1 305 := ⟨by decide +kernel, rfl⟩
theorem dl_305 : zD code 305 (.iadd) 1 306 := ⟨by decide +kernel, rfl⟩
theorem dl_306 : zD code 306 (.iaload) 1 307 := ⟨by decide +kernel, rfl⟩
theorem dl_307 : zD code 307 (.aload_n 0) 1 308 := ⟨by decide +kernel, rfl⟩
theorem dl_308 : zD code 308 (.iload_n 3) 1 309 := ⟨by decide +kernel, rfl⟩
theorem dl_309 : zD code 309 (.iconst 3) 1 310 := ⟨by decide +kernel, rfl⟩
theorem dl_310 : zD code 310 (.iadd) 1 311 := ⟨by decide +kernel, rfl⟩
theorem dl_311 : zD code 311 (.iaload) 1 312 := ⟨by decide +kernel, rfl⟩
theorem dl_312 : zD code 312 (.invokevirtual 23) 3 315 := ⟨by decide +kernel, rfl⟩
theorem dl_315 : zD code 315 (.aload_n 2) 1 316 := ⟨by decide +kernel, rfl⟩
theorem dl_316 : zD code 316 (.aload_n 0) 1 317 := ⟨by decide +kernel, rfl⟩
theorem dl_317 : zD code 317 (.iload_n 3) 1 318 := ⟨by decide +kernel, rfl⟩
theorem dl_318 : zD code 318 (.iconst 1) 1 319 := ⟨by decide +kernel, rfl⟩
theorem dl_319 : zD code 319 (.iadd) 1 320 := ⟨by decide +kernel, rfl⟩
theorem dl_320 : zD code 320 (.iaload) 1 321 := ⟨by decide +kernel, rfl⟩
theorem dl_321 : zD code 321 (.aload_n 0) 1 322 := ⟨by decide +kernel, rfl⟩
theorem dl_322 : zD code 322 (.iload_n 3) 1 323 := ⟨by decide +kernel, rfl⟩
theorem dl_323 : zD code 323 (.iconst 2) 1 324 := ⟨by decide +kernel, rfl⟩
theorem dl_324 : zD code 324 (.iadd) 1 325 := ⟨by decide +kernel, rfl⟩
theorem dl_325 : zD code 325 (.iaload) 1 326 := ⟨by decide +kernel, rfl⟩
theorem dl_326 : zD code 326 (.aload_n 0) 1 327 := ⟨by decide +kernel, rfl⟩
theorem dl_327 : zD code 327 (.iload_n 3) 1 328 := ⟨by decide +kernel, rfl⟩
theorem dl_328 : zD code 328 (.iconst 3) 1 329 := ⟨by decide +kernel, rfl⟩
theorem dl_329 : zD code 329 (.iadd) 1 330 := ⟨by decide +kernel, rfl⟩
theorem dl_330 : zD code 330 (.iaload) 1 331 := ⟨by decide +kernel, rfl⟩
theorem dl_331 : zD code 331 (.invokevirtual 27) 3 334 := ⟨by decide +kernel, rfl⟩
theorem dl_334 : zD code 334 (.if_icmp .eq 1320) 3 337 := ⟨by decide +kernel, rfl⟩
theorem dl_337 : zD code 337 (.iconst 0) 1 338 := ⟨by decide +kernel, rfl⟩
theorem dl_338 : zD code 338 (.ireturn) 1 339 := ⟨by decide +kernel, rfl⟩
theorem dl_339 : zD code 339 (.aload_n 1) 1 340 := ⟨by decide +kernel, rfl⟩
theorem dl_340 : zD code 340 (.aload_n 0) 1 341 := ⟨by decide +kernel, rfl⟩
theorem dl_341 : zD code 341 (.iload_n 3) 1 342 := ⟨by decide +kernel, rfl⟩
theorem dl_342 : zD code 342 (.iconst 1) 1 343 := ⟨by decide +kernel, rfl⟩
theorem dl_343 : zD code 343 (.iadd) 1 344 := ⟨by decide +kernel, rfl⟩
theorem dl_344 : zD code 344 (.iaload) 1 345 := ⟨by decide +kernel, rfl⟩
theorem dl_345 : zD code 345 (.aload_n 0) 1 346 := ⟨by decide +kernel, rfl⟩
theorem dl_346 : zD code 346 (.iload_n 3) 1 347 := ⟨by decide +kernel, rfl⟩
theorem dl_347 : zD code 347 (.iconst 2) 1 348 := ⟨by decide +kernel, rfl⟩
theorem dl_348 : zD code 348 (.iadd) 1 349 := ⟨by decide +kernel, rfl⟩
theorem dl_349 : zD code 349 (.iaload) 1 350 := ⟨by decide +kernel, rfl⟩
theorem dl_350 : zD code 350 (.invokevirtual 28) 3 353 := ⟨by decide +kernel, rfl⟩
theorem dl_353 : zD code 353 (.aload_n 2) 1 354 := ⟨by decide +kernel, rfl⟩
theorem dl_354 : zD code 354 (.aload_n 0) 1 355 := ⟨by decide +kernel, rfl⟩
theorem dl_355 : zD code 355 (.iload_n 3) 1 356 := ⟨by decide +kernel, rfl⟩
theorem dl_356 : zD code 356 (.iconst 1) 1 357 := ⟨by decide +kernel, rfl⟩
theorem dl_357 : zD code 357 (.iadd) 1 358 := ⟨by decide +kernel, rfl⟩
theorem dl_358 : zD code 358 (.iaload) 1 359 := ⟨by decide +kernel, rfl⟩
theorem dl_359 : zD code 359 (.aload_n 0) 1 360 := ⟨by decide +kernel, rfl⟩
theorem dl_360 : zD code 360 (.iload_n 3) 1 361 := ⟨by decide +kernel, rfl⟩
theorem dl_361 : zD code 361 (.iconst 2) 1 362 := ⟨by decide +kernel, rfl⟩
theorem dl_362 : zD code 362 (.iadd) 1 363 := ⟨by decide +kernel, rfl⟩
theorem dl_363 : zD code 363 (.iaload) 1 364 := ⟨by decide +kernel, rfl⟩
theorem dl_364 : zD code 364 (.invokevirtual 31) 3 367 := ⟨by decide +kernel, rfl⟩
theorem dl_367 : zD code 367 (.if_icmp .eq 1287) 3 370 := ⟨by decide +kernel, rfl⟩
theorem dl_370 : zD code 370 (.iconst 0) 1 371 := ⟨by decide +kernel, rfl⟩
theorem dl_371 : zD code 371 (.ireturn) 1 372 := ⟨by decide +kernel, rfl⟩
theorem dl_372 : zD code 372 (.aload_n 1) 1 373 := ⟨by decide +kernel, rfl⟩
theorem dl_373 : zD code 373 (.aload_n 0) 1 374 := ⟨by decide +kernel, rfl⟩
theorem dl_374 : zD code 374 (.iload_n 3) 1 375 := ⟨by decide +kernel, rfl⟩
theorem dl_375 : zD code 375 (.iconst 1) 1 376 := ⟨by decide +kernel, rfl⟩
theorem dl_376 : zD code 376 (.iadd) 1 377 := ⟨by decide +kernel, rfl⟩
theorem dl_377 : zD code 377 (.iaload) 1 378 := ⟨by decide +kernel, rfl⟩
theorem dl_378 : zD code 378 (.aload_n 0) 1 379 := ⟨by decide +kernel, rfl⟩
theorem dl_379 : zD code 379 (.iload_n 3) 1 380 := ⟨by decide +kernel, rfl⟩
theorem dl_380 : zD code 380 (.iconst 2) 1 381 := ⟨by decide +kernel, rfl⟩
theorem dl_381 : zD code 381 (.iadd) 1 382 := ⟨by decide +kernel, rfl⟩
theorem dl_382 : zD code 382 (.iaload) 1 383 := ⟨by decide +kernel, rfl⟩
theorem dl_383 : zD code 383 (.invokevirtual 32) 3 386 := ⟨by decide +kernel, rfl⟩
theorem dl_386 : zD code 386 (.aload_n 2) 1 387 := ⟨by decide +kernel, rfl⟩
theorem dl_387 : zD code 387 (.aload_n 0) 1 388 := ⟨by decide +kernel, rfl⟩
theorem dl_388 : zD code 388 (.iload_n 3) 1 389 := ⟨by decide +kernel, rfl⟩
theorem dl_389 : zD code 389 (.iconst 1) 1 390 := ⟨by decide +kernel, rfl⟩
theorem dl_390 : zD code 390 (.iadd) 1 391 := ⟨by decide +kernel, rfl⟩
theorem dl_391 : zD code 391 (.iaload) 1 392 := ⟨by decide +kernel, rfl⟩
theorem dl_392 : zD code 392 (.aload_n 0) 1 393 := ⟨by decide +kernel, rfl⟩
theorem dl_393 : zD code 393 (.iload_n 3) 1 394 := ⟨by decide +kernel, rfl⟩
theorem dl_394 : zD code 394 (.iconst 2) 1 395 := ⟨by decide +kernel, rfl⟩
theorem dl_395 : zD code 395 (.iadd) 1 396 := ⟨by decide +kernel, rfl⟩
theorem dl_396 : zD code 396 (.iaload) 1 397 := ⟨by decide +kernel, rfl⟩
theorem dl_397 : zD code 397 (.invokevirtual 35) 3 400 := ⟨by decide +kernel, rfl⟩
theorem dl_400 : zD code 400 (.if_icmp .eq 1254) 3 403 := ⟨by decide +kernel, rfl⟩
theorem dl_403 : zD code 403 (.iconst 0) 1 404 := ⟨by decide +kernel, rfl⟩
theorem dl_404 : zD code 404 (.ireturn) 1 405 := ⟨by decide +kernel, rfl⟩
theorem dl_405 : zD code 405 (.aload_n 1) 1 406 := ⟨by decide +kernel, rfl⟩
theorem dl_406 : zD code 406 (.invokevirtual 36) 3 409 := ⟨by decide +kernel, rfl⟩
theorem dl_409 : zD code 409 (.aload_n 2) 1 410 := ⟨by decide +kernel, rfl⟩
theorem dl_410 : zD code 410 (.invokevirtual 40) 3 413 := ⟨by decide +kernel, rfl⟩
theorem dl_413 : zD code 413 (.if_icmp .eq 1241) 3 416 := ⟨by decide +kernel, rfl⟩
theorem dl_416 : zD code 416 (.iconst 0) 1 417 := ⟨by decide +kernel, rfl⟩
theorem dl_417 : zD code 417 (.ireturn) 1 418 := ⟨by decide +kernel, rfl⟩
theorem dl_418 : zD code 418 (.aload_n 1) 1 419 := ⟨by decide +kernel, rfl⟩
theorem dl_419 : zD code 419 (.aload_n 0) 1 420 := ⟨by decide +kernel, rfl⟩
theorem dl_420 : zD code 420 (.iload_n 3) 1 421 := ⟨by decide +kernel, rfl⟩
theorem dl_421 : zD code 421 (.iconst 1) 1 422 := ⟨by decide +kernel, rfl⟩
theorem dl_422 : zD code 422 (.iadd) 1 423 := ⟨by decide +kernel, rfl⟩
theorem dl_423 : zD code 423 (.iaload) 1 424 := ⟨by decide +kernel, rfl⟩
theorem dl_424 : zD code 424 (.invokevirtual 41) 3 427 := ⟨by decide +kernel, rfl⟩
theorem dl_427 : zD code 427 (.aload_n 2) 1 428 := ⟨by decide +kernel, rfl⟩
theorem dl_428 : zD code 428 (.aload_n 0) 1 429 := ⟨by decide +kernel, rfl⟩
theorem dl_429 : zD code 429 (.iload_n 3) 1 430 := ⟨by decide +kernel, rfl⟩
theorem dl_430 : zD code 430 (.iconst 1) 1 431 := ⟨by decide +kernel, rfl⟩
theorem dl_431 : zD code 431 (.iadd) 1 432 := ⟨by decide +kernel, rfl⟩
theorem dl_432 : zD code 432 (.iaload) 1 433 := ⟨by decide +kernel, rfl⟩
theorem dl_433 : zD code 433 (.invokevirtual 44) 3 436 := ⟨by decide +kernel, rfl⟩
theorem dl_436 : zD code 436 (.if_icmp .eq 1218) 3 439 := ⟨by decide +kernel, rfl⟩
theorem dl_439 : zD code 439 (.iconst 0) 1 440 := ⟨by decide +kernel, rfl⟩
theorem dl_440 : zD code 440 (.ireturn) 1 441 := ⟨by decide +kernel, rfl⟩
theorem dl_441 : zD code 441 (.aload_n 1) 1 442 := ⟨by decide +kernel, rfl⟩
theorem dl_442 : zD code 442 (.aload_n 0) 1 443 := ⟨by decide +kernel, rfl⟩
theorem dl_443 : zD code 443 (.iload_n 3) 1 444 := ⟨by decide +kernel, rfl⟩
theorem dl_444 : zD code 444 (.iconst 1) 1 445 := ⟨by decide +kernel, rfl⟩
theorem dl_445 : zD code 445 (.iadd) 1 446 := ⟨by decide +kernel, rfl⟩
theorem dl_446 : zD code 446 (.iaload) 1 447 := ⟨by decide +kernel, rfl⟩
theorem dl_447 : zD code 447 (.invokevirtual 45) 3 450 := ⟨by decide +kernel, rfl⟩
theorem dl_450 : zD code 450 (.aload_n 2) 1 451 := ⟨by decide +kernel, rfl⟩
theorem dl_451 : zD code 451 (.aload_n 0) 1 452 := ⟨by decide +kernel, rfl⟩
theorem dl_452 : zD code 452 (.iload_n 3) 1 453 := ⟨by decide +kernel, rfl⟩
theorem dl_453 : zD code 453 (.iconst 1) 1 454 := ⟨by decide +kernel, rfl⟩
theorem dl_454 : zD code 454 (.iadd) 1 455 := ⟨by decide +kernel, rfl⟩
theorem dl_455 : zD code 455 (.iaload) 1 456 := ⟨by decide +kernel, rfl⟩
theorem dl_456 : zD code 456 (.invokevirtual 48) 3 459 := ⟨by decide +kernel, rfl⟩
theorem dl_459 : zD code 459 (.if_icmp .eq 1195) 3 462 := ⟨by decide +kernel, rfl⟩
theorem dl_462 : zD code 462 (.iconst 0) 1 463 := ⟨by decide +kernel, rfl⟩
theorem dl_463 : zD code 463 (.ireturn) 1 464 := ⟨by decide +kernel, rfl⟩
theorem dl_464 : zD code 464 (.aload_n 1) 1 465 := ⟨by decide +kernel, rfl⟩
theorem dl_465 : zD code 465 (.invokevirtual 49) 3 468 := ⟨by decide +kernel, rfl⟩
theorem dl_468 : zD code 468 (.aload_n 2) 1 469 := ⟨by decide +kernel, rfl⟩
theorem dl_469 : zD code 469 (.invokevirtual 52) 3 472 := ⟨by decide +kernel, rfl⟩
theorem dl_472 : zD code 472 (.if_icmp .eq 1182) 3 475 := ⟨by decide +kernel, rfl⟩
theorem dl_475 : zD code 475 (.iconst 0) 1 476 := ⟨by decide +kernel, rfl⟩
theorem dl_476 : zD code 476 (.ireturn) 1 477 := ⟨by decide +kernel, rfl⟩
theorem dl_477 : zD code 477 (.aload_n 1) 1 478 := ⟨by decide +kernel, rfl⟩
theorem dl_478 : zD code 478 (.aload_n 0) 1 479 := ⟨by decide +kernel, rfl⟩
theorem dl_479 : zD code 479 (.iload_n 3) 1 480 := ⟨by decide +kernel, rfl⟩
theorem dl_480 : zD code 480 (.iconst 1) 1 481 := ⟨by decide +kernel, rfl⟩
theorem dl_481 : zD code 481 (.iadd) 1 482 := ⟨by decide +kernel, rfl⟩
theorem dl_482 : zD code 482 (.iaload) 1 483 := ⟨by decide +kernel, rfl⟩
theorem dl_483 : zD code 483 (.i2l) 1 484 := ⟨by decide +kernel, rfl⟩
theorem dl_484 : zD code 484 (.bipush 32) 2 486 := ⟨by decide +kernel, rfl⟩
theorem dl_486 : zD code 486 (.lshl) 1 487 := ⟨by decide +kernel, rfl⟩
theorem dl_487 : zD code 487 (.aload_n 0) 1 488 := ⟨by decide +kernel, rfl⟩
theorem dl_488 : zD code 488 (.iload_n 3) 1 489 := ⟨by decide +kernel, rfl⟩
theorem dl_489 : zD code 489 (.iconst 2) 1 490 := ⟨by decide +kernel, rfl⟩
theorem dl_490 : zD code 490 (.iadd) 1 491 := ⟨by decide +kernel, rfl⟩
theorem dl_491 : zD code 491 (.iaload) 1 492 := ⟨by decide +kernel, rfl⟩
theorem dl_492 : zD code 492 (.i2l) 1 493 := ⟨by decide +kernel, rfl⟩
theorem dl_493 : zD code 493 (.ldc2_w 53) 3 496 := ⟨by decide +kernel, rfl⟩
theorem dl_496 : zD code 496 (.land) 1 497 := ⟨by decide +kernel, rfl⟩
theorem dl_497 : zD code 497 (.lor) 1 498 := ⟨by decide +kernel, rfl⟩
theorem dl_498 : zD code 498 (.aload_n 0) 1 499 := ⟨by decide +kernel, rfl⟩
theorem dl_499 : zD code 499 (.iload_n 3) 1 500 := ⟨by decide +kernel, rfl⟩
theorem dl_500 : zD code 500 (.iconst 3) 1 501 := ⟨by decide +kernel, rfl⟩
theorem dl_501 : zD code 501 (.iadd) 1 502 := ⟨by decide +kernel, rfl⟩
theorem dl_502 : zD code 502 (.iaload) 1 503 := ⟨by decide +kernel, rfl⟩
theorem dl_503 : zD code 503 (.invokevirtual 55) 3 506 := ⟨by decide +kernel, rfl⟩
theorem dl_506 : zD code 506 (.aload_n 2) 1 507 := ⟨by decide +kernel, rfl⟩
theorem dl_507 : zD code 507 (.aload_n 0) 1 508 := ⟨by decide +kernel, rfl⟩
theorem dl_508 : zD code 508 (.iload_n 3) 1 509 := ⟨by decide +kernel, rfl⟩
theorem dl_509 : zD code 509 (.iconst 1) 1 510 := ⟨by decide +kernel, rfl⟩
theorem dl_510 : zD code 510 (.iadd) 1 511 := ⟨by decide +kernel, rfl⟩
theorem dl_511 : zD code 511 (.iaload) 1 512 := ⟨by decide +kernel, rfl⟩
theorem dl_512 : zD code 512 (.i2l) 1 513 := ⟨by decide +kernel, rfl⟩
theorem dl_513 : zD code 513 (.bipush 32) 2 515 := ⟨by decide +kernel, rfl⟩
theorem dl_515 : zD code 515 (.lshl) 1 516 := ⟨by decide +kernel, rfl⟩
theorem dl_516 : zD code 516 (.aload_n 0) 1 517 := ⟨by decide +kernel, rfl⟩
theorem dl_517 : zD code 517 (.iload_n 3) 1 518 := ⟨by decide +kernel, rfl⟩
theorem dl_518 : zD code 518 (.iconst 2) 1 519 := ⟨by decide +kernel, rfl⟩
theorem dl_519 : zD code 519 (.iadd) 1 520 := ⟨by decide +kernel, rfl⟩
theorem dl_520 : zD code 520 (.iaload) 1 521 := ⟨by decide +kernel, rfl⟩
theorem dl_521 : zD code 521 (.i2l) 1 522 := ⟨by decide +kernel, rfl⟩
theorem dl_522 : zD code 522 (.ldc2_w 53) 3 525 := ⟨by decide +kernel, rfl⟩
theorem dl_525 : zD code 525 (.land) 1 526 := ⟨by decide +kernel, rfl⟩
theorem dl_526 : zD code 526 (.lor) 1 527 := ⟨by decide +kernel, rfl⟩
theorem dl_527 : zD code 527 (.aload_n 0) 1 528 := ⟨by decide +kernel, rfl⟩
theorem dl_528 : zD code 528 (.iload_n 3) 1 529 := ⟨by decide +kernel, rfl⟩
theorem dl_529 : zD code 529 (.iconst 3) 1 530 := ⟨by decide +kernel, rfl⟩
theorem dl_530 : zD code 530 (.iadd) 1 531 := ⟨by decide +kernel, rfl⟩
theorem dl_531 : zD code 531 (.iaload) 1 532 := ⟨by decide +kernel, rfl⟩
theorem dl_532 : zD code 532 (.invokevirtual 59) 3 535 := ⟨by decide +kernel, rfl⟩
theorem dl_535 : zD code 535 (.if_icmp .eq 1119) 3 538 := ⟨by decide +kernel, rfl⟩
theorem dl_538 : zD code 538 (.iconst 0) 1 539 := ⟨by decide +kernel, rfl⟩
theorem dl_539 : zD code 539 (.ireturn) 1 540 := ⟨by decide +kernel, rfl⟩
theorem dl_540 : zD code 540 (.aload_n 1) 1 541 := ⟨by decide +kernel, rfl⟩
theorem dl_541 : zD code 541 (.aload_n 0) 1 542 := ⟨by decide +kernel, rfl⟩
theorem dl_542 : zD code 542 (.iload_n 3) 1 543 := ⟨by decide +kernel, rfl⟩
theorem dl_543 : zD code 543 (.iconst 1) 1 544 := ⟨by decide +kernel, rfl⟩
theorem dl_544 : zD code 544 (.iadd) 1 545 := ⟨by decide +kernel, rfl⟩
theorem dl_545 : zD code 545 (.iaload) 1 546 := ⟨by decide +kernel, rfl⟩
theorem dl_546 : zD code 546 (.invokevirtual 60) 3 549 := ⟨by decide +kernel, rfl⟩
theorem dl_549 : zD code 549 (.aload_n 2) 1 550 := ⟨by decide +kernel, rfl⟩
theorem dl_550 : zD code 550 (.aload_n 0) 1 551 := ⟨by decide +kernel, rfl⟩
theorem dl_551 : zD code 551 (.iload_n 3) 1 552 := ⟨by decide +kernel, rfl⟩
theorem dl_552 : zD code 552 (.iconst 1) 1 553 := ⟨by decide +kernel, rfl⟩
theorem dl_553 : zD code 553 (.iadd) 1 554 := ⟨by decide +kernel, rfl⟩
theorem dl_554 : zD code 554 (.iaload) 1 555 := ⟨by decide +kernel, rfl⟩
theorem dl_555 : zD code 555 (.invokevirtual 63) 3 558 := ⟨by decide +kernel, rfl⟩
theorem dl_558 : zD code 558 (.if_icmp .eq 1096) 3 561 := ⟨by decide +kernel, rfl⟩
theorem dl_561 : zD code 561 (.iconst 0) 1 562 := ⟨by decide +kernel, rfl⟩
theorem dl_562 : zD code 562 (.ireturn) 1 563 := ⟨by decide +kernel, rfl⟩
theorem dl_563 : zD code 563 (.aload_n 1) 1 564 := ⟨by decide +kernel, rfl⟩
theorem dl_564 : zD code 564 (.aload_n 0) 1 565 := ⟨by decide +kernel, rfl⟩
theorem dl_565 : zD code 565 (.iload_n 3) 1 566 := ⟨by decide +kernel, rfl⟩
theorem dl_566 : zD code 566 (.iconst 1) 1 567 := ⟨by decide +kernel, rfl⟩
theorem dl_567 : zD code 567 (.iadd) 1 568 := ⟨by decide +kernel, rfl⟩
theorem dl_568 : zD code 568 (.iaload) 1 569 := ⟨by decide +kernel, rfl⟩
theorem dl_569 : zD code 569 (.invokevirtual 64) 3 572 := ⟨by decide +kernel, rfl⟩
theorem dl_572 : zD code 572 (.aload_n 2) 1 573 := ⟨by decide +kernel, rfl⟩
theorem dl_573 : zD code 573 (.aload_n 0) 1 574 := ⟨by decide +kernel, rfl⟩
theorem dl_574 : zD code 574 (.iload_n 3) 1 575 := ⟨by decide +kernel, rfl⟩
theorem dl_575 : zD code 575 (.iconst 1) 1 576 := ⟨by decide +kernel, rfl⟩
theorem dl_576 : zD code 576 (.iadd) 1 577 := ⟨by decide +kernel, rfl⟩
theorem dl_577 : zD code 577 (.iaload) 1 578 := ⟨by decide +kernel, rfl⟩
theorem dl_578 : zD code 578 (.invokevirtual 67) 3 581 := ⟨by decide +kernel, rfl⟩
theorem dl_581 : zD code 581 (.if_icmp .eq 1073) 3 584 := ⟨by decide +kernel, rfl⟩
theorem dl_584 : zD code 584 (.iconst 0) 1 585 := ⟨by decide +kernel, rfl⟩
theorem dl_585 : zD code 585 (.ireturn) 1 586 := ⟨by decide +kernel, rfl⟩
theorem dl_586 : zD code 586 (.aload_n 1) 1 587 := ⟨by decide +kernel, rfl⟩
theorem dl_587 : zD code 587 (.aload_n 0) 1 588 := ⟨by decide +kernel, rfl⟩
theorem dl_588 : zD code 588 (.iload_n 3) 1 589 := ⟨by decide +kernel, rfl⟩
theorem dl_589 : zD code 589 (.iconst 1) 1 590 := ⟨by decide +kernel, rfl⟩
theorem dl_590 : zD code 590 (.iadd) 1 591 := ⟨by decide +kernel, rfl⟩
theorem dl_591 : zD code 591 (.iaload) 1 592 := ⟨by decide +kernel, rfl⟩
theorem dl_592 : zD code 592 (.aload_n 0) 1 593 := ⟨by decide +kernel, rfl⟩
theorem dl_593 : zD code 593 (.iload_n 3) 1 594 := ⟨by decide +kernel, rfl⟩
theorem dl_594 : zD code 594 (.iconst 2) 1 595 := ⟨by decide +kernel, rfl⟩
theorem dl_595 : zD code 595 (.iadd) 1 596 := ⟨by decide +kernel, rfl⟩
theorem dl_596 : zD code 596 (.iaload) 1 597 := ⟨by decide +kernel, rfl⟩
theorem dl_597 : zD code 597 (.invokevirtual 68) 3 600 := ⟨by decide +kernel, rfl⟩
theorem dl_600 : zD code 600 (.aload_n 2) 1 601 := ⟨by decide +kernel, rfl⟩
theorem dl_601 : zD code 601 (.aload_n 0) 1 602 := ⟨by decide +kernel, rfl⟩
theorem dl_602 : zD code 602 (.iload_n 3) 1 603 := ⟨by decide +kernel, rfl⟩
theorem dl_603 : zD code 603 (.iconst 1) 1 604 := ⟨by decide +kernel, rfl⟩
theorem dl_604 : zD code 604 (.iadd) 1 605 := ⟨by decide +kernel, rfl⟩
theorem dl_605 : zD code 605 (.iaload) 1 606 := ⟨by decide +kernel, rfl⟩
theorem dl_606 : zD code 606 (.aload_n 0) 1 607 := ⟨by decide +kernel, rfl⟩
theorem dl_607 : zD code 607 (.iload_n 3) 1 608 := ⟨by decide +kernel, rfl⟩
theorem dl_608 : zD code 608 (.iconst 2) 1 609 := ⟨by decide +kernel, rfl⟩
theorem dl_609 : zD code 609 (.iadd) 1 610 := ⟨by decide +kernel, rfl⟩
theorem dl_610 : zD code 610 (.iaload) 1 611 := ⟨by decide +kernel, rfl⟩
theorem dl_611 : zD code 611 (.invokevirtual 71) 3 614 := ⟨by decide +kernel, rfl⟩
theorem dl_614 : zD code 614 (.if_icmp .eq 1040) 3 617 := ⟨by decide +kernel, rfl⟩
theorem dl_617 : zD code 617 (.iconst 0) 1 618 := ⟨by decide +kernel, rfl⟩
theorem dl_618 : zD code 618 (.ireturn) 1 619 := ⟨by decide +kernel, rfl⟩
theorem dl_619 : zD code 619 (.aload_n 1) 1 620 := ⟨by decide +kernel, rfl⟩
theorem dl_620 : zD code 620 (.aload_n 0) 1 621 := ⟨by decide +kernel, rfl⟩
theorem dl_621 : zD code 621 (.iload_n 3) 1 622 := ⟨by decide +kernel, rfl⟩
theorem dl_622 : zD code 622 (.iconst 1) 1 623 := ⟨by decide +kernel, rfl⟩
theorem dl_623 : zD code 623 (.iadd) 1 624 := ⟨by decide +kernel, rfl⟩
theorem dl_624 : zD code 624 (.iaload) 1 625 := ⟨by decide +kernel, rfl⟩
theorem dl_625 : zD code 625 (.invokevirtual 72) 3 628 := ⟨by decide +kernel, rfl⟩
theorem dl_628 : zD code 628 (.aload_n 2) 1 629 := ⟨by decide +kernel, rfl⟩
theorem dl_629 : zD code 629 (.aload_n 0) 1 630 := ⟨by decide +kernel, rfl⟩
theorem dl_630 : zD code 630 (.iload_n 3) 1 631 := ⟨by decide +kernel, rfl⟩
theorem dl_631 : zD code 631 (.iconst 1) 1 632 := ⟨by decide +kernel, rfl⟩
theorem dl_632 : zD code 632 (.iadd) 1 633 := ⟨by decide +kernel, rfl⟩
theorem dl_633 : zD code 633 (.iaload) 1 634 := ⟨by decide +kernel, rfl⟩
theorem dl_634 : zD code 634 (.invokevirtual 75) 3 637 := ⟨by decide +kernel, rfl⟩
theorem dl_637 : zD code 637 (.if_icmp .eq 1017) 3 640 := ⟨by decide +kernel, rfl⟩
theorem dl_640 : zD code 640 (.iconst 0) 1 641 := ⟨by decide +kernel, rfl⟩
theorem dl_641 : zD code 641 (.ireturn) 1 642 := ⟨by decide +kernel, rfl⟩
theorem dl_642 : zD code 642 (.aload_n 1) 1 643 := ⟨by decide +kernel, rfl⟩
theorem dl_643 : zD code 643 (.aload_n 0) 1 644 := ⟨by decide +kernel, rfl⟩
theorem dl_644 : zD code 644 (.iload_n 3) 1 645 := ⟨by decide +kernel, rfl⟩
theorem dl_645 : zD code 645 (.iconst 1) 1 646 := ⟨by decide +kernel, rfl⟩
theorem dl_646 : zD code 646 (.iadd) 1 647 := ⟨by decide +kernel, rfl⟩
theorem dl_647 : zD code 647 (.iaload) 1 648 := ⟨by decide +kernel, rfl⟩
theorem dl_648 : zD code 648 (.aload_n 0) 1 649 := ⟨by decide +kernel, rfl⟩
theorem dl_649 : zD code 649 (.iload_n 3) 1 650 := ⟨by decide +kernel, rfl⟩
theorem dl_650 : zD code 650 (.iconst 2) 1 651 := ⟨by decide +kernel, rfl⟩
theorem dl_651 : zD code 651 (.iadd) 1 652 := ⟨by decide +kernel, rfl⟩
theorem dl_652 : zD code 652 (.iaload) 1 653 := ⟨by decide +kernel, rfl⟩
theorem dl_653 : zD code 653 (.invokevirtual 76) 3 656 := ⟨by decide +kernel, rfl⟩
theorem dl_656 : zD code 656 (.aload_n 2) 1 657 := ⟨by decide +kernel, rfl⟩
theorem dl_657 : zD code 657 (.aload_n 0) 1 658 := ⟨by decide +kernel, rfl⟩
theorem dl_658 : zD code 658 (.iload_n 3) 1 659 := ⟨by decide +kernel, rfl⟩
theorem dl_659 : zD code 659 (.iconst 1) 1 660 := ⟨by decide +kernel, rfl⟩
theorem dl_660 : zD code 660 (.iadd) 1 661 := ⟨by decide +kernel, rfl⟩
theorem dl_661 : zD code 661 (.iaload) 1 662 := ⟨by decide +kernel, rfl⟩
theorem dl_662 : zD code 662 (.aload_n 0) 1 663 := ⟨by decide +kernel, rfl⟩
theorem dl_663 : zD code 663 (.iload_n 3) 1 664 := ⟨by decide +kernel, rfl⟩
theorem dl_664 : zD code 664 (.iconst 2) 1 665 := ⟨by decide +kernel, rfl⟩
theorem dl_665 : zD code 665 (.iadd) 1 666 := ⟨by decide +kernel, rfl⟩
theorem dl_666 : zD code 666 (.iaload) 1 667 := ⟨by decide +kernel, rfl⟩
theorem dl_667 : zD code 667 (.invokevirtual 79) 3 670 := ⟨by decide +kernel, rfl⟩
theorem dl_670 : zD code 670 (.if_icmp .eq 984) 3 673 := ⟨by decide +kernel, rfl⟩
theorem dl_673 : zD code 673 (.iconst 0) 1 674 := ⟨by decide +kernel, rfl⟩
theorem dl_674 : zD code 674 (.ireturn) 1 675 := ⟨by decide +kernel, rfl⟩
theorem dl_675 : zD code 675 (.aload_n 1) 1 676 := ⟨by decide +kernel, rfl⟩
theorem dl_676 : zD code 676 (.aload_n 0) 1 677 := ⟨by decide +kernel, rfl⟩
theorem dl_677 : zD code 677 (.iload_n 3) 1 678 := ⟨by decide +kernel, rfl⟩
theorem dl_678 : zD code 678 (.iconst 1) 1 679 := ⟨by decide +kernel, rfl⟩
theorem dl_679 : zD code 679 (.iadd) 1 680 := ⟨by decide +kernel, rfl⟩
theorem dl_680 : zD code 680 (.iaload) 1 681 := ⟨by decide +kernel, rfl⟩
theorem dl_681 : zD code 681 (.aload_n 0) 1 682 := ⟨by decide +kernel, rfl⟩
theorem dl_682 : zD code 682 (.iload_n 3) 1 683 := ⟨by decide +kernel, rfl⟩
theorem dl_683 : zD code 683 (.iconst 2) 1 684 := ⟨by decide +kernel, rfl⟩
theorem dl_684 : zD code 684 (.iadd) 1 685 := ⟨by decide +kernel, rfl⟩
theorem dl_685 : zD code 685 (.iaload) 1 686 := ⟨by decide +kernel, rfl⟩
theorem dl_686 : zD code 686 (.aload_n 0) 1 687 := ⟨by decide +kernel, rfl⟩
theorem dl_687 : zD code 687 (.iload_n 3) 1 688 := ⟨by decide +kernel, rfl⟩
theorem dl_688 : zD code 688 (.iconst 3) 1 689 := ⟨by decide +kernel, rfl⟩
theorem dl_689 : zD code 689 (.iadd) 1 690 := ⟨by decide +kernel, rfl⟩
theorem dl_690 : zD code 690 (.iaload) 1 691 := ⟨by decide +kernel, rfl⟩
theorem dl_691 : zD code 691 (.invokevirtual 80) 3 694 := ⟨by decide +kernel, rfl⟩
theorem dl_694 : zD code 694 (.aload_n 2) 1 695 := ⟨by decide +kernel, rfl⟩
theorem dl_695 : zD code 695 (.aload_n 0) 1 696 := ⟨by decide +kernel, rfl⟩
theorem dl_696 : zD code 696 (.iload_n 3) 1 697 := ⟨by decide +kernel, rfl⟩
theorem dl_697 : zD code 697 (.iconst 1) 1 698 := ⟨by decide +kernel, rfl⟩
theorem dl_698 : zD code 698 (.iadd) 1 699 := ⟨by decide +kernel, rfl⟩
theorem dl_699 : zD code 699 (.iaload) 1 700 := ⟨by decide +kernel, rfl⟩
theorem dl_700 : zD code 700 (.aload_n 0) 1 701 := ⟨by decide +kernel, rfl⟩
theorem dl_701 : zD code 701 (.iload_n 3) 1 702 := ⟨by decide +kernel, rfl⟩
theorem dl_702 : zD code 702 (.iconst 2) 1 703 := ⟨by decide +kernel, rfl⟩
theorem dl_703 : zD code 703 (.iadd) 1 704 := ⟨by decide +kernel, rfl⟩
theorem dl_704 : zD code 704 (.iaload) 1 705 := ⟨by decide +kernel, rfl⟩
theorem dl_705 : zD code 705 (.aload_n 0) 1 706 := ⟨by decide +kernel, rfl⟩
theorem dl_706 : zD code 706 (.iload_n 3) 1 707 := ⟨by decide +kernel, rfl⟩
theorem dl_707 : zD code 707 (.iconst 3) 1 708 := ⟨by decide +kernel, rfl⟩
theorem dl_708 : zD code 708 (.iadd) 1 709 := ⟨by decide +kernel, rfl⟩
theorem dl_709 : zD code 709 (.iaload) 1 710 := ⟨by decide +kernel, rfl⟩
theorem dl_710 : zD code 710 (.invokevirtual 83) 3 713 := ⟨by decide +kernel, rfl⟩
theorem dl_713 : zD code 713 (.if_icmp .eq 941) 3 716 := ⟨by decide +kernel, rfl⟩
theorem dl_716 : zD code 716 (.iconst 0) 1 717 := ⟨by decide +kernel, rfl⟩
theorem dl_717 : zD code 717 (.ireturn) 1 718 := ⟨by decide +kernel, rfl⟩
theorem dl_718 : zD code 718 (.aload_n 1) 1 719 := ⟨by decide +kernel, rfl⟩
theorem dl_719 : zD code 719 (.aload_n 0) 1 720 := ⟨by decide +kernel, rfl⟩
theorem dl_720 : zD code 720 (.iload_n 3) 1 721 := ⟨by decide +kernel, rfl⟩
theorem dl_721 : zD code 721 (.iconst 1) 1 722 := ⟨by decide +kernel, rfl⟩
theorem dl_722 : zD code 722 (.iadd) 1 723 := ⟨by decide +kernel, rfl⟩
theorem dl_723 : zD code 723 (.iaload) 1 724 := ⟨by decide +kernel, rfl⟩
theorem dl_724 : zD code 724 (.aload_n 0) 1 725 := ⟨by decide +kernel, rfl⟩
theorem dl_725 : zD code 725 (.iload_n 3) 1 726 := ⟨by decide +kernel, rfl⟩
theorem dl_726 : zD code 726 (.iconst 2) 1 727 := ⟨by decide +kernel, rfl⟩
theorem dl_727 : zD code 727 (.iadd) 1 728 := ⟨by decide +kernel, rfl⟩
theorem dl_728 : zD code 728 (.iaload) 1 729 := ⟨by decide +kernel, rfl⟩
theorem dl_729 : zD code 729 (.invokevirtual 84) 3 732 := ⟨by decide +kernel, rfl⟩
theorem dl_732 : zD code 732 (.aload_n 2) 1 733 := ⟨by decide +kernel, rfl⟩
theorem dl_733 : zD code 733 (.aload_n 0) 1 734 := ⟨by decide +kernel, rfl⟩
theorem dl_734 : zD code 734 (.iload_n 3) 1 735 := ⟨by decide +kernel, rfl⟩
theorem dl_735 : zD code 735 (.iconst 1) 1 736 := ⟨by decide +kernel, rfl⟩
theorem dl_736 : zD code 736 (.iadd) 1 737 := ⟨by decide +kernel, rfl⟩
theorem dl_737 : zD code 737 (.iaload) 1 738 := ⟨by decide +kernel, rfl⟩
theorem dl_738 : zD code 738 (.aload_n 0) 1 739 := ⟨by decide +kernel, rfl⟩
theorem dl_739 : zD code 739 (.iload_n 3) 1 740 := ⟨by decide +kernel, rfl⟩
theorem dl_740 : zD code 740 (.iconst 2) 1 741 := ⟨by decide +kernel, rfl⟩
theorem dl_741 : zD code 741 (.iadd) 1 742 := ⟨by decide +kernel, rfl⟩
theorem dl_742 : zD code 742 (.iaload) 1 743 := ⟨by decide +kernel, rfl⟩
theorem dl_743 : zD code 743 (.invokevirtual 87) 3 746 := ⟨by decide +kernel, rfl⟩
theorem dl_746 : zD code 746 (.if_icmp .eq 908) 3 749 := ⟨by decide +kernel, rfl⟩
theorem dl_749 : zD code 749 (.iconst 0) 1 750 := ⟨by decide +kernel, rfl⟩
theorem dl_750 : zD code 750 (.ireturn) 1 751 := ⟨by decide +kernel, rfl⟩
theorem dl_751 : zD code 751 (.aload_n 1) 1 752 := ⟨by decide +kernel, rfl⟩
theorem dl_752 : zD code 752 (.aload_n 0) 1 753 := ⟨by decide +kernel, rfl⟩
theorem dl_753 : zD code 753 (.iload_n 3) 1 754 := ⟨by decide +kernel, rfl⟩
theorem dl_754 : zD code 754 (.iconst 1) 1 755 := ⟨by decide +kernel, rfl⟩
theorem dl_755 : zD code 755 (.iadd) 1 756 := ⟨by decide +kernel, rfl⟩
theorem dl_756 : zD code 756 (.iaload) 1 757 := ⟨by decide +kernel, rfl⟩
theorem dl_757 : zD code 757 (.aload_n 0) 1 758 := ⟨by decide +kernel, rfl⟩
theorem dl_758 : zD code 758 (.iload_n 3) 1 759 := ⟨by decide +kernel, rfl⟩
theorem dl_759 : zD code 759 (.iconst 2) 1 760 := ⟨by decide +kernel, rfl⟩
theorem dl_760 : zD code 760 (.iadd) 1 761 := ⟨by decide +kernel, rfl⟩
theorem dl_761 : zD code 761 (.iaload) 1 762 := ⟨by decide +kernel, rfl⟩
theorem dl_762 : zD code 762 (.invokevirtual 88) 3 765 := ⟨by decide +kernel, rfl⟩
theorem dl_765 : zD code 765 (.aload_n 2) 1 766 := ⟨by decide +kernel, rfl⟩
theorem dl_766 : zD code 766 (.aload_n 0) 1 767 := ⟨by decide +kernel, rfl⟩
theorem dl_767 : zD code 767 (.iload_n 3) 1 768 := ⟨by decide +kernel, rfl⟩
theorem dl_768 : zD code 768 (.iconst 1) 1 769 := ⟨by decide +kernel, rfl⟩
theorem dl_769 : zD code 769 (.iadd) 1 770 := ⟨by decide +kernel, rfl⟩
theorem dl_770 : zD code 770 (.iaload) 1 771 := ⟨by decide +kernel, rfl⟩
theorem dl_771 : zD code 771 (.aload_n 0) 1 772 := ⟨by decide +kernel, rfl⟩
theorem dl_772 : zD code 772 (.iload_n 3) 1 773 := ⟨by decide +kernel, rfl⟩
theorem dl_773 : zD code 773 (.iconst 2) 1 774 := ⟨by decide +kernel, rfl⟩
theorem dl_774 : zD code 774 (.iadd) 1 775 := ⟨by decide +kernel, rfl⟩
theorem dl_775 : zD code 775 (.iaload) 1 776 := ⟨by decide +kernel, rfl⟩
theorem dl_776 : zD code 776 (.invokevirtual 91) 3 779 := ⟨by decide +kernel, rfl⟩
theorem dl_779 : zD code 779 (.if_icmp .eq 875) 3 782 := ⟨by decide +kernel, rfl⟩
theorem dl_782 : zD code 782 (.iconst 0) 1 783 := ⟨by decide +kernel, rfl⟩
theorem dl_783 : zD code 783 (.ireturn) 1 784 := ⟨by decide +kernel, rfl⟩
theorem dl_784 : zD code 784 (.aload_n 1) 1 785 := ⟨by decide +kernel, rfl⟩
theorem dl_785 : zD code 785 (.aload_n 0) 1 786 := ⟨by decide +kernel, rfl⟩
theorem dl_786 : zD code 786 (.iload_n 3) 1 787 := ⟨by decide +kernel, rfl⟩
theorem dl_787 : zD code 787 (.iconst 1) 1 788 := ⟨by decide +kernel, rfl⟩
theorem dl_788 : zD code 788 (.iadd) 1 789 := ⟨by decide +kernel, rfl⟩
theorem dl_789 : zD code 789 (.iaload) 1 790 := ⟨by decide +kernel, rfl⟩
theorem dl_790 : zD code 790 (.aload_n 0) 1 791 := ⟨by decide +kernel, rfl⟩
theorem dl_791 : zD code 791 (.iload_n 3) 1 792 := ⟨by decide +kernel, rfl⟩
theorem dl_792 : zD code 792 (.iconst 2) 1 793 := ⟨by decide +kernel, rfl⟩
theorem dl_793 : zD code 793 (.iadd) 1 794 := ⟨by decide +kernel, rfl⟩
theorem dl_794 : zD code 794 (.iaload) 1 795 := ⟨by decide +kernel, rfl⟩
theorem dl_795 : zD code 795 (.aload_n 0) 1 796 := ⟨by decide +kernel, rfl⟩
theorem dl_796 : zD code 796 (.iload_n 3) 1 797 := ⟨by decide +kernel, rfl⟩
theorem dl_797 : zD code 797 (.iconst 3) 1 798 := ⟨by decide +kernel, rfl⟩
theorem dl_798 : zD code 798 (.iadd) 1 799 := ⟨by decide +kernel, rfl⟩
theorem dl_799 : zD code 799 (.iaload) 1 800 := ⟨by decide +kernel, rfl⟩
theorem dl_800 : zD code 800 (.invokevirtual 92) 3 803 := ⟨by decide +kernel, rfl⟩
theorem dl_803 : zD code 803 (.aload_n 2) 1 804 := ⟨by decide +kernel, rfl⟩
theorem dl_804 : zD code 804 (.aload_n 0) 1 805 := ⟨by decide +kernel, rfl⟩
theorem dl_805 : zD code 805 (.iload_n 3) 1 806 := ⟨by decide +kernel, rfl⟩
theorem dl_806 : zD code 806 (.iconst 1) 1 807 := ⟨by decide +kernel, rfl⟩
theorem dl_807 : zD code 807 (.iadd) 1 808 := ⟨by decide +kernel, rfl⟩
theorem dl_808 : zD code 808 (.iaload) 1 809 := ⟨by decide +kernel, rfl⟩
theorem dl_809 : zD code 809 (.aload_n 0) 1 810 := ⟨by decide +kernel, rfl⟩
theorem dl_810 : zD code 810 (.iload_n 3) 1 811 := ⟨by decide +kernel, rfl⟩
theorem dl_811 : zD code 811 (.iconst 2) 1 812 := ⟨by decide +kernel, rfl⟩
theorem dl_812 : zD code 812 (.iadd) 1 813 := ⟨by decide +kernel, rfl⟩
theorem dl_813 : zD code 813 (.iaload) 1 814 := ⟨by decide +kernel, rfl⟩
theorem dl_814 : zD code 814 (.aload_n 0) 1 815 := ⟨by decide +kernel, rfl⟩
theorem dl_815 : zD code 815 (.iload_n 3) 1 816 := ⟨by decide +kernel, rfl⟩
theorem dl_816 : zD code 816 (.iconst 3) 1 817 := ⟨by decide +kernel, rfl⟩
theorem dl_817 : zD code 817 (.iadd) 1 818 := ⟨by decide +kernel, rfl⟩
theorem dl_818 : zD code 818 (.iaload) 1 819 := ⟨by decide +kernel, rfl⟩
theorem dl_819 : zD code 819 (.invokevirtual 95) 3 822 := ⟨by decide +kernel, rfl⟩
theorem dl_822 : zD code 822 (.if_icmp .eq 832) 3 825 := ⟨by decide +kernel, rfl⟩
theorem dl_825 : zD code 825 (.iconst 0) 1 826 := ⟨by decide +kernel, rfl⟩
theorem dl_826 : zD code 826 (.ireturn) 1 827 := ⟨by decide +kernel, rfl⟩
theorem dl_827 : zD code 827 (.aload_n 1) 1 828 := ⟨by decide +kernel, rfl⟩
theorem dl_828 : zD code 828 (.aload_n 0) 1 829 := ⟨by decide +kernel, rfl⟩
theorem dl_829 : zD code 829 (.iload_n 3) 1 830 := ⟨by decide +kernel, rfl⟩
theorem dl_830 : zD code 830 (.iconst 1) 1 831 := ⟨by decide +kernel, rfl⟩
theorem dl_831 : zD code 831 (.iadd) 1 832 := ⟨by decide +kernel, rfl⟩
theorem dl_832 : zD code 832 (.iaload) 1 833 := ⟨by decide +kernel, rfl⟩
theorem dl_833 : zD code 833 (.aload_n 0) 1 834 := ⟨by decide +kernel, rfl⟩
theorem dl_834 : zD code 834 (.iload_n 3) 1 835 := ⟨by decide +kernel, rfl⟩
theorem dl_835 : zD code 835 (.iconst 2) 1 836 := ⟨by decide +kernel, rfl⟩
theorem dl_836 : zD code 836 (.iadd) 1 837 := ⟨by decide +kernel, rfl⟩
theorem dl_837 : zD code 837 (.iaload) 1 838 := ⟨by decide +kernel, rfl⟩
theorem dl_838 : zD code 838 (.aload_n 0) 1 839 := ⟨by decide +kernel, rfl⟩
theorem dl_839 : zD code 839 (.iload_n 3) 1 840 := ⟨by decide +kernel, rfl⟩
theorem dl_840 : zD code 840 (.iconst 3) 1 841 := ⟨by decide +kernel, rfl⟩
theorem dl_841 : zD code 841 (.iadd) 1 842 := ⟨by decide +kernel, rfl⟩
theorem dl_842 : zD code 842 (.iaload) 1 843 := ⟨by decide +kernel, rfl⟩
theorem dl_843 : zD code 843 (.invokevirtual 96) 3 846 := ⟨by decide +kernel, rfl⟩
theorem dl_846 : zD code 846 (.aload_n 2) 1 847 := ⟨by decide +kernel, rfl⟩
theorem dl_847 : zD code 847 (.aload_n 0) 1 848 := ⟨by decide +kernel, rfl⟩
theorem dl_848 : zD code 848 (.iload_n 3) 1 849 := ⟨by decide +kernel, rfl⟩
theorem dl_849 : zD code 849 (.iconst 1) 1 850 := ⟨by decide +kernel, rfl⟩
theorem dl_850 : zD code 850 (.iadd) 1 851 := ⟨by decide +kernel, rfl⟩
theorem dl_851 : zD code 851 (.iaload) 1 852 := ⟨by decide +kernel, rfl⟩
theorem dl_852 : zD code 852 (.aload_n 0) 1 853 := ⟨by decide +kernel, rfl⟩
theorem dl_853 : zD code 853 (.iload_n 3) 1 854 := ⟨by decide +kernel, rfl⟩
theorem dl_854 : zD code 854 (.iconst 2) 1 855 := ⟨by decide +kernel, rfl⟩
theorem dl_855 : zD code 855 (.iadd) 1 856 := ⟨by decide +kernel, rfl⟩
theorem dl_856 : zD code 856 (.iaload) 1 857 := ⟨by decide +kernel, rfl⟩
theorem dl_857 : zD code 857 (.aload_n 0) 1 858 := ⟨by decide +kernel, rfl⟩
theorem dl_858 : zD code 858 (.iload_n 3) 1 859 := ⟨by decide +kernel, rfl⟩
theorem dl_859 : zD code 859 (.iconst 3) 1 860 := ⟨by decide +kernel, rfl⟩
theorem dl_860 : zD code 860 (.iadd) 1 861 := ⟨by decide +kernel, rfl⟩
theorem dl_861 : zD code 861 (.iaload) 1 862 := ⟨by decide +kernel, rfl⟩
theorem dl_862 : zD code 862 (.invokevirtual 99) 3 865 := ⟨by decide +kernel, rfl⟩
theorem dl_865 : zD code 865 (.if_icmp .eq 789) 3 868 := ⟨by decide +kernel, rfl⟩
theorem dl_868 : zD code 868 (.iconst 0) 1 869 := ⟨by decide +kernel, rfl⟩
theorem dl_869 : zD code 869 (.ireturn) 1 870 := ⟨by decide +kernel, rfl⟩
theorem dl_870 : zD code 870 (.aload_n 1) 1 871 := ⟨by decide +kernel, rfl⟩
theorem dl_871 : zD code 871 (.aload_n 0) 1 872 := ⟨by decide +kernel, rfl⟩
theorem dl_872 : zD code 872 (.iload_n 3) 1 873 := ⟨by decide +kernel, rfl⟩
theorem dl_873 : zD code 873 (.iconst 1) 1 874 := ⟨by decide +kernel, rfl⟩
theorem dl_874 : zD code 874 (.iadd) 1 875 := ⟨by decide +kernel, rfl⟩
theorem dl_875 : zD code 875 (.iaload) 1 876 := ⟨by decide +kernel, rfl⟩
theorem dl_876 : zD code 876 (.invokevirtual 100) 3 879 := ⟨by decide +kernel, rfl⟩
theorem dl_879 : zD code 879 (.aload_n 2) 1 880 := ⟨by decide +kernel, rfl⟩
theorem dl_880 : zD code 880 (.aload_n 0) 1 881 := ⟨by decide +kernel, rfl⟩
theorem dl_881 : zD code 881 (.iload_n 3) 1 882 := ⟨by decide +kernel, rfl⟩
theorem dl_882 : zD code 882 (.iconst 1) 1 883 := ⟨by decide +kernel, rfl⟩
theorem dl_883 : zD code 883 (.iadd) 1 884 := ⟨by decide +kernel, rfl⟩
theorem dl_884 : zD code 884 (.iaload) 1 885 := ⟨by decide +kernel, rfl⟩
theorem dl_885 : zD code 885 (.invokevirtual 103) 3 888 := ⟨by decide +kernel, rfl⟩
theorem dl_888 : zD code 888 (.if_icmp .eq 766) 3 891 := ⟨by decide +kernel, rfl⟩
theorem dl_891 : zD code 891 (.iconst 0) 1 892 := ⟨by decide +kernel, rfl⟩
theorem dl_892 : zD code 892 (.ireturn) 1 893 := ⟨by decide +kernel, rfl⟩
theorem dl_893 : zD code 893 (.aload_n 1) 1 894 := ⟨by decide +kernel, rfl⟩
theorem dl_894 : zD code 894 (.aload_n 0) 1 895 := ⟨by decide +kernel, rfl⟩
theorem dl_895 : zD code 895 (.iload_n 3) 1 896 := ⟨by decide +kernel, rfl⟩
theorem dl_896 : zD code 896 (.iconst 1) 1 897 := ⟨by decide +kernel, rfl⟩
theorem dl_897 : zD code 897 (.iadd) 1 898 := ⟨by decide +kernel, rfl⟩
theorem dl_898 : zD code 898 (.iaload) 1 899 := ⟨by decide +kernel, rfl⟩
theorem dl_899 : zD code 899 (.invokevirtual 104) 3 902 := ⟨by decide +kernel, rfl⟩
theorem dl_902 : zD code 902 (.aload_n 2) 1 903 := ⟨by decide +kernel, rfl⟩
theorem dl_903 : zD code 903 (.aload_n 0) 1 904 := ⟨by decide +kernel, rfl⟩
theorem dl_904 : zD code 904 (.iload_n 3) 1 905 := ⟨by decide +kernel, rfl⟩
theorem dl_905 : zD code 905 (.iconst 1) 1 906 := ⟨by decide +kernel, rfl⟩
theorem dl_906 : zD code 906 (.iadd) 1 907 := ⟨by decide +kernel, rfl⟩
theorem dl_907 : zD code 907 (.iaload) 1 908 := ⟨by decide +kernel, rfl⟩
theorem dl_908 : zD code 908 (.invokevirtual 107) 3 911 := ⟨by decide +kernel, rfl⟩
theorem dl_911 : zD code 911 (.if_icmp .eq 743) 3 914 := ⟨by decide +kernel, rfl⟩
theorem dl_914 : zD code 914 (.iconst 0) 1 915 := ⟨by decide +kernel, rfl⟩
theorem dl_915 : zD code 915 (.ireturn) 1 916 := ⟨by decide +kernel, rfl⟩
theorem dl_916 : zD code 916 (.aload_n 1) 1 917 := ⟨by decide +kernel, rfl⟩
theorem dl_917 : zD code 917 (.aload_n 0) 1 918 := ⟨by decide +kernel, rfl⟩
theorem dl_918 : zD code 918 (.iload_n 3) 1 919 := ⟨by decide +kernel, rfl⟩
theorem dl_919 : zD code 919 (.iconst 1) 1 920 := ⟨by decide +kernel, rfl⟩
theorem dl_920 : zD code 920 (.iadd) 1 921 := ⟨by decide +kernel, rfl⟩
theorem dl_921 : zD code 921 (.iaload) 1 922 := ⟨by decide +kernel, rfl⟩
theorem dl_922 : zD code 922 (.aload_n 0) 1 923 := ⟨by decide +kernel, rfl⟩
theorem dl_923 : zD code 923 (.iload_n 3) 1 924 := ⟨by decide +kernel, rfl⟩
theorem dl_924 : zD code 924 (.iconst 2) 1 925 := ⟨by decide +kernel, rfl⟩
theorem dl_925 : zD code 925 (.iadd) 1 926 := ⟨by decide +kernel, rfl⟩
theorem dl_926 : zD code 926 (.iaload) 1 927 := ⟨by decide +kernel, rfl⟩
theorem dl_927 : zD code 927 (.invokevirtual 108) 3 930 := ⟨by decide +kernel, rfl⟩
theorem dl_930 : zD code 930 (.aload_n 2) 1 931 := ⟨by decide +kernel, rfl⟩
theorem dl_931 : zD code 931 (.aload_n 0) 1 932 := ⟨by decide +kernel, rfl⟩
theorem dl_932 : zD code 932 (.iload_n 3) 1 933 := ⟨by decide +kernel, rfl⟩
theorem dl_933 : zD code 933 (.iconst 1) 1 934 := ⟨by decide +kernel, rfl⟩
theorem dl_934 : zD code 934 (.iadd) 1 935 := ⟨by decide +kernel, rfl⟩
theorem dl_935 : zD code 935 (.iaload) 1 936 := ⟨by decide +kernel, rfl⟩
theorem dl_936 : zD code 936 (.aload_n 0) 1 937 := ⟨by decide +kernel, rfl⟩
theorem dl_937 : zD code 937 (.iload_n 3) 1 938 := ⟨by decide +kernel, rfl⟩
theorem dl_938 : zD code 938 (.iconst 2) 1 939 := ⟨by decide +kernel, rfl⟩
theorem dl_939 : zD code 939 (.iadd) 1 940 := ⟨by decide +kernel, rfl⟩
theorem dl_940 : zD code 940 (.iaload) 1 941 := ⟨by decide +kernel, rfl⟩
theorem dl_941 : zD code 941 (.invokevirtual 111) 3 944 := ⟨by decide +kernel, rfl⟩
theorem dl_944 : zD code 944 (.if_icmp .eq 710) 3 947 := ⟨by decide +kernel, rfl⟩
theorem dl_947 : zD code 947 (.iconst 0) 1 948 := ⟨by decide +kernel, rfl⟩
theorem dl_948 : zD code 948 (.ireturn) 1 949 := ⟨by decide +kernel, rfl⟩
theorem dl_949 : zD code 949 (.aload_n 1) 1 950 := ⟨by decide +kernel, rfl⟩
theorem dl_950 : zD code 950 (.aload_n 0) 1 951 := ⟨by decide +kernel, rfl⟩
theorem dl_951 : zD code 951 (.iload_n 3) 1 952 := ⟨by decide +kernel, rfl⟩
theorem dl_952 : zD code 952 (.iconst 1) 1 953 := ⟨by decide +kernel, rfl⟩
theorem dl_953 : zD code 953 (.iadd) 1 954 := ⟨by decide +kernel, rfl⟩
theorem dl_954 : zD code 954 (.iaload) 1 955 := ⟨by decide +kernel, rfl⟩
theorem dl_955 : zD code 955 (.aload_n 0) 1 956 := ⟨by decide +kernel, rfl⟩
theorem dl_956 : zD code 956 (.iload_n 3) 1 957 := ⟨by decide +kernel, rfl⟩
theorem dl_957 : zD code 957 (.iconst 2) 1 958 := ⟨by decide +kernel, rfl⟩
theorem dl_958 : zD code 958 (.iadd) 1 959 := ⟨by decide +kernel, rfl⟩
theorem dl_959 : zD code 959 (.iaload) 1 960 := ⟨by decide +kernel, rfl⟩
theorem dl_960 : zD code 960 (.invokevirtual 112) 3 963 := ⟨by decide +kernel, rfl⟩
theorem dl_963 : zD code 963 (.aload_n 2) 1 964 := ⟨by decide +kernel, rfl⟩
theorem dl_964 : zD code 964 (.aload_n 0) 1 965 := ⟨by decide +kernel, rfl⟩
theorem dl_965 : zD code 965 (.iload_n 3) 1 966 := ⟨by decide +kernel, rfl⟩
theorem dl_966 : zD code 966 (.iconst 1) 1 967 := ⟨by decide +kernel, rfl⟩
theorem dl_967 : zD code 967 (.iadd) 1 968 := ⟨by decide +kernel, rfl⟩
theorem dl_968 : zD code 968 (.iaload) 1 969 := ⟨by decide +kernel, rfl⟩
theorem dl_969 : zD code 969 (.aload_n 0) 1 970 := ⟨by decide +kernel, rfl⟩
theorem dl_970 : zD code 970 (.iload_n 3) 1 971 := ⟨by decide +kernel, rfl⟩
theorem dl_971 : zD code 971 (.iconst 2) 1 972 := ⟨by decide +kernel, rfl⟩
theorem dl_972 : zD code 972 (.iadd) 1 973 := ⟨by decide +kernel, rfl⟩
theorem dl_973 : zD code 973 (.iaload) 1 974 := ⟨by decide +kernel, rfl⟩
theorem dl_974 : zD code 974 (.invokevirtual 115) 3 977 := ⟨by decide +kernel, rfl⟩
theorem dl_977 : zD code 977 (.if_icmp .eq 677) 3 980 := ⟨by decide +kernel, rfl⟩
theorem dl_980 : zD code 980 (.iconst 0) 1 981 := ⟨by decide +kernel, rfl⟩
theorem dl_981 : zD code 981 (.ireturn) 1 982 := ⟨by decide +kernel, rfl⟩
theorem dl_982 : zD code 982 (.aload_n 1) 1 983 := ⟨by decide +kernel, rfl⟩
theorem dl_983 : zD code 983 (.aload_n 0) 1 984 := ⟨by decide +kernel, rfl⟩
theorem dl_984 : zD code 984 (.iload_n 3) 1 985 := ⟨by decide +kernel, rfl⟩
theorem dl_985 : zD code 985 (.iconst 1) 1 986 := ⟨by decide +kernel, rfl⟩
theorem dl_986 : zD code 986 (.iadd) 1 987 := ⟨by decide +kernel, rfl⟩
theorem dl_987 : zD code 987 (.iaload) 1 988 := ⟨by decide +kernel, rfl⟩
theorem dl_988 : zD code 988 (.aload_n 0) 1 989 := ⟨by decide +kernel, rfl⟩
theorem dl_989 : zD code 989 (.iload_n 3) 1 990 := ⟨by decide +kernel, rfl⟩
theorem dl_990 : zD code 990 (.iconst 2) 1 991 := ⟨by decide +kernel, rfl⟩
theorem dl_991 : zD code 991 (.iadd) 1 992 := ⟨by decide +kernel, rfl⟩
theorem dl_992 : zD code 992 (.iaload) 1 993 := ⟨by decide +kernel, rfl⟩
theorem dl_993 : zD code 993 (.invokevirtual 116) 3 996 := ⟨by decide +kernel, rfl⟩
theorem dl_996 : zD code 996 (.aload_n 2) 1 997 := ⟨by decide +kernel, rfl⟩
theorem dl_997 : zD code 997 (.aload_n 0) 1 998 := ⟨by decide +kernel, rfl⟩
theorem dl_998 : zD code 998 (.iload_n 3) 1 999 := ⟨by decide +kernel, rfl⟩
theorem dl_999 : zD code 999 (.iconst 1) 1 1000 := ⟨by decide +kernel, rfl⟩
theorem dl_1000 : zD code 1000 (.iadd) 1 1001 := ⟨by decide +kernel, rfl⟩
theorem dl_1001 : zD code 1001 (.iaload) 1 1002 := ⟨by decide +kernel, rfl⟩
theorem dl_1002 : zD code 1002 (.aload_n 0) 1 1003 := ⟨by decide +kernel, rfl⟩
theorem dl_1003 : zD code 1003 (.iload_n 3) 1 1004 := ⟨by decide +kernel, rfl⟩
theorem dl_1004 : zD code 1004 (.iconst 2) 1 1005 := ⟨by decide +kernel, rfl⟩
theorem dl_1005 : zD code 1005 (.iadd) 1 1006 := ⟨by decide +kernel, rfl⟩
theorem dl_1006 : zD code 1006 (.iaload) 1 1007 := ⟨by decide +kernel, rfl⟩
theorem dl_1007 : zD code 1007 (.invokevirtual 119) 3 1010 := ⟨by decide +kernel, rfl⟩
theorem dl_1010 : zD code 1010 (.if_icmp .eq 644) 3 1013 := ⟨by decide +kernel, rfl⟩
theorem dl_1013 : zD code 1013 (.iconst 0) 1 1014 := ⟨by decide +kernel, rfl⟩
theorem dl_1014 : zD code 1014 (.ireturn) 1 1015 := ⟨by decide +kernel, rfl⟩
theorem dl_1015 : zD code 1015 (.aload_n 1) 1 1016 := ⟨by decide +kernel, rfl⟩
theorem dl_1016 : zD code 1016 (.aload_n 0) 1 1017 := ⟨by decide +kernel, rfl⟩
theorem dl_1017 : zD code 1017 (.iload_n 3) 1 1018 := ⟨by decide +kernel, rfl⟩
theorem dl_1018 : zD code 1018 (.iconst 1) 1 1019 := ⟨by decide +kernel, rfl⟩
theorem dl_1019 : zD code 1019 (.iadd) 1 1020 := ⟨by decide +kernel, rfl⟩
theorem dl_1020 : zD code 1020 (.iaload) 1 1021 := ⟨by decide +kernel, rfl⟩
theorem dl_1021 : zD code 1021 (.aload_n 0) 1 1022 := ⟨by decide +kernel, rfl⟩
theorem dl_1022 : zD code 1022 (.iload_n 3) 1 1023 := ⟨by decide +kernel, rfl⟩
theorem dl_1023 : zD code 1023 (.iconst 2) 1 1024 := ⟨by decide +kernel, rfl⟩
theorem dl_1024 : zD code 1024 (.iadd) 1 1025 := ⟨by decide +kernel, rfl⟩
theorem dl_1025 : zD code 1025 (.iaload) 1 1026 := ⟨by decide +kernel, rfl⟩
theorem dl_1026 : zD code 1026 (.aload_n 0) 1 1027 := ⟨by decide +kernel, rfl⟩
theorem dl_1027 : zD code 1027 (.iload_n 3) 1 1028 := ⟨by decide +kernel, rfl⟩
theorem dl_1028 : zD code 1028 (.iconst 3) 1 1029 := ⟨by decide +kernel, rfl⟩
theorem dl_1029 : zD code 1029 (.iadd) 1 1030 := ⟨by decide +kernel, rfl⟩
theorem dl_1030 : zD code 1030 (.iaload) 1 1031 := ⟨by decide +kernel, rfl⟩
theorem dl_1031 : zD code 1031 (.invokevirtual 120) 3 1034 := ⟨by decide +kernel, rfl⟩
theorem dl_1034 : zD code 1034 (.aload_n 2) 1 1035 := ⟨by decide +kernel, rfl⟩
theorem dl_1035 : zD code 1035 (.aload_n 0) 1 1036 := ⟨by decide +kernel, rfl⟩
theorem dl_1036 : zD code 1036 (.iload_n 3) 1 1037 := ⟨by decide +kernel, rfl⟩
theorem dl_1037 : zD code 1037 (.iconst 1) 1 1038 := ⟨by decide +kernel, rfl⟩
theorem dl_1038 : zD code 1038 (.iadd) 1 1039 := ⟨by decide +kernel, rfl⟩
theorem dl_1039 : zD code 1039 (.iaload) 1 1040 := ⟨by decide +kernel, rfl⟩
theorem dl_1040 : zD code 1040 (.aload_n 0) 1 1041 := ⟨by decide +kernel, rfl⟩
theorem dl_1041 : zD code 1041 (.iload_n 3) 1 1042 := ⟨by decide +kernel, rfl⟩
theorem dl_1042 : zD code 1042 (.iconst 2) 1 1043 := ⟨by decide +kernel, rfl⟩
theorem dl_1043 : zD code 1043 (.iadd) 1 1044 := ⟨by decide +kernel, rfl⟩
theorem dl_1044 : zD code 1044 (.iaload) 1 1045 := ⟨by decide +kernel, rfl⟩
theorem dl_1045 : zD code 1045 (.aload_n 0) 1 1046 := ⟨by decide +kernel, rfl⟩
theorem dl_1046 : zD code 1046 (.iload_n 3) 1 1047 := ⟨by decide +kernel, rfl⟩
theorem dl_1047 : zD code 1047 (.iconst 3) 1 1048 := ⟨by decide +kernel, rfl⟩
theorem dl_1048 : zD code 1048 (.iadd) 1 1049 := ⟨by decide +kernel, rfl⟩
theorem dl_1049 : zD code 1049 (.iaload) 1 1050 := ⟨by decide +kernel, rfl⟩
theorem dl_1050 : zD code 1050 (.invokevirtual 123) 3 1053 := ⟨by decide +kernel, rfl⟩
theorem dl_1053 : zD code 1053 (.if_icmp .eq 601) 3 1056 := ⟨by decide +kernel, rfl⟩
theorem dl_1056 : zD code 1056 (.iconst 0) 1 1057 := ⟨by decide +kernel, rfl⟩
theorem dl_1057 : zD code 1057 (.ireturn) 1 1058 := ⟨by decide +kernel, rfl⟩
theorem dl_1058 : zD code 1058 (.aload_n 1) 1 1059 := ⟨by decide +kernel, rfl⟩
theorem dl_1059 : zD code 1059 (.aload_n 0) 1 1060 := ⟨by decide +kernel, rfl⟩
theorem dl_1060 : zD code 1060 (.iload_n 3) 1 1061 := ⟨by decide +kernel, rfl⟩
theorem dl_1061 : zD code 1061 (.iconst 1) 1 1062 := ⟨by decide +kernel, rfl⟩
theorem dl_1062 : zD code 1062 (.iadd) 1 1063 := ⟨by decide +kernel, rfl⟩
theorem dl_1063 : zD code 1063 (.iaload) 1 1064 := ⟨by decide +kernel, rfl⟩
theorem dl_1064 : zD code 1064 (.aload_n 0) 1 1065 := ⟨by decide +kernel, rfl⟩
theorem dl_1065 : zD code 1065 (.iload_n 3) 1 1066 := ⟨by decide +kernel, rfl⟩
theorem dl_1066 : zD code 1066 (.iconst 2) 1 1067 := ⟨by decide +kernel, rfl⟩
theorem dl_1067 : zD code 1067 (.iadd) 1 1068 := ⟨by decide +kernel, rfl⟩
theorem dl_1068 : zD code 1068 (.iaload) 1 1069 := ⟨by decide +kernel, rfl⟩
theorem dl_1069 : zD code 1069 (.aload_n 0) 1 1070 := ⟨by decide +kernel, rfl⟩
theorem dl_1070 : zD code 1070 (.iload_n 3) 1 1071 := ⟨by decide +kernel, rfl⟩
theorem dl_1071 : zD code 1071 (.iconst 3) 1 1072 := ⟨by decide +kernel, rfl⟩
theorem dl_1072 : zD code 1072 (.iadd) 1 1073 := ⟨by decide +kernel, rfl⟩
theorem dl_1073 : zD code 1073 (.iaload) 1 1074 := ⟨by decide +kernel, rfl⟩
theorem dl_1074 : zD code 1074 (.invokevirtual 124) 3 1077 := ⟨by decide +kernel, rfl⟩
theorem dl_1077 : zD code 1077 (.aload_n 2) 1 1078 := ⟨by decide +kernel, rfl⟩
theorem dl_1078 : zD code 1078 (.aload_n 0) 1 1079 := ⟨by decide +kernel, rfl⟩
theorem dl_1079 : zD code 1079 (.iload_n 3) 1 1080 := ⟨by decide +kernel, rfl⟩
theorem dl_1080 : zD code 1080 (.iconst 1) 1 1081 := ⟨by decide +kernel, rfl⟩
theorem dl_1081 : zD code 1081 (.iadd) 1 1082 := ⟨by decide +kernel, rfl⟩
theorem dl_1082 : zD code 1082 (.iaload) 1 1083 := ⟨by decide +kernel, rfl⟩
theorem dl_1083 : zD code 1083 (.aload_n 0) 1 1084 := ⟨by decide +kernel, rfl⟩
theorem dl_1084 : zD code 1084 (.iload_n 3) 1 1085 := ⟨by decide +kernel, rfl⟩
theorem dl_1085 : zD code 1085 (.iconst 2) 1 1086 := ⟨by decide +kernel, rfl⟩
theorem dl_1086 : zD code 1086 (.iadd) 1 1087 := ⟨by decide +kernel, rfl⟩
theorem dl_1087 : zD code 1087 (.iaload) 1 1088 := ⟨by decide +kernel, rfl⟩
theorem dl_1088 : zD code 1088 (.aload_n 0) 1 1089 := ⟨by decide +kernel, rfl⟩
theorem dl_1089 : zD code 1089 (.iload_n 3) 1 1090 := ⟨by decide +kernel, rfl⟩
theorem dl_1090 : zD code 1090 (.iconst 3) 1 1091 := ⟨by decide +kernel, rfl⟩
theorem dl_1091 : zD code 1091 (.iadd) 1 1092 := ⟨by decide +kernel, rfl⟩
theorem dl_1092 : zD code 1092 (.iaload) 1 1093 := ⟨by decide +kernel, rfl⟩
theorem dl_1093 : zD code 1093 (.invokevirtual 127) 3 1096 := ⟨by decide +kernel, rfl⟩
theorem dl_1096 : zD code 1096 (.if_icmp .eq 558) 3 1099 := ⟨by decide +kernel, rfl⟩
theorem dl_1099 : zD code 1099 (.iconst 0) 1 1100 := ⟨by decide +kernel, rfl⟩
theorem dl_1100 : zD code 1100 (.ireturn) 1 1101 := ⟨by decide +kernel, rfl⟩
theorem dl_1101 : zD code 1101 (.aload_n 1) 1 1102 := ⟨by decide +kernel, rfl⟩
theorem dl_1102 : zD code 1102 (.aload_n 0) 1 1103 := ⟨by decide +kernel, rfl⟩
theorem dl_1103 : zD code 1103 (.iload_n 3) 1 1104 := ⟨by decide +kernel, rfl⟩
theorem dl_1104 : zD code 1104 (.iconst 1) 1 1105 := ⟨by decide +kernel, rfl⟩
theorem dl_1105 : zD code 1105 (.iadd) 1 1106 := ⟨by decide +kernel, rfl⟩
theorem dl_1106 : zD code 1106 (.iaload) 1 1107 := ⟨by decide +kernel, rfl⟩
theorem dl_1107 : zD code 1107 (.aload_n 0) 1 1108 := ⟨by decide +kernel, rfl⟩
theorem dl_1108 : zD code 1108 (.iload_n 3) 1 1109 := ⟨by decide +kernel, rfl⟩
theorem dl_1109 : zD code 1109 (.iconst 2) 1 1110 := ⟨by decide +kernel, rfl⟩
theorem dl_1110 : zD code 1110 (.iadd) 1 1111 := ⟨by decide +kernel, rfl⟩
theorem dl_1111 : zD code 1111 (.iaload) 1 1112 := ⟨by decide +kernel, rfl⟩
theorem dl_1112 : zD code 1112 (.invokevirtual 128) 3 1115 := ⟨by decide +kernel, rfl⟩
theorem dl_1115 : zD code 1115 (.aload_n 2) 1 1116 := ⟨by decide +kernel, rfl⟩
theorem dl_1116 : zD code 1116 (.aload_n 0) 1 1117 := ⟨by decide +kernel, rfl⟩
theorem dl_1117 : zD code 1117 (.iload_n 3) 1 1118 := ⟨by decide +kernel, rfl⟩
theorem dl_1118 : zD code 1118 (.iconst 1) 1 1119 := ⟨by decide +kernel, rfl⟩
theorem dl_1119 : zD code 1119 (.iadd) 1 1120 := ⟨by decide +kernel, rfl⟩
theorem dl_1120 : zD code 1120 (.iaload) 1 1121 := ⟨by decide +kernel, rfl⟩
theorem dl_1121 : zD code 1121 (.aload_n 0) 1 1122 := ⟨by decide +kernel, rfl⟩
theorem dl_1122 : zD code 1122 (.iload_n 3) 1 1123 := ⟨by decide +kernel, rfl⟩
theorem dl_1123 : zD code 1123 (.iconst 2) 1 1124 := ⟨by decide +kernel, rfl⟩
theorem dl_1124 : zD code 1124 (.iadd) 1 1125 := ⟨by decide +kernel, rfl⟩
theorem dl_1125 : zD code 1125 (.iaload) 1 1126 := ⟨by decide +kernel, rfl⟩
theorem dl_1126 : zD code 1126 (.invokevirtual 131) 3 1129 := ⟨by decide +kernel, rfl⟩
theorem dl_1129 : zD code 1129 (.if_icmp .eq 525) 3 1132 := ⟨by decide +kernel, rfl⟩
theorem dl_1132 : zD code 1132 (.iconst 0) 1 1133 := ⟨by decide +kernel, rfl⟩
theorem dl_1133 : zD code 1133 (.ireturn) 1 1134 := ⟨by decide +kernel, rfl⟩
theorem dl_1134 : zD code 1134 (.aload_n 1) 1 1135 := ⟨by decide +kernel, rfl⟩
theorem dl_1135 : zD code 1135 (.aload_n 0) 1 1136 := ⟨by decide +kernel, rfl⟩
theorem dl_1136 : zD code 1136 (.iload_n 3) 1 1137 := ⟨by decide +kernel, rfl⟩
theorem dl_1137 : zD code 1137 (.iconst 1) 1 1138 := ⟨by decide +kernel, rfl⟩
theorem dl_1138 : zD code 1138 (.iadd) 1 1139 := ⟨by decide +kernel, rfl⟩
theorem dl_1139 : zD code 1139 (.iaload) 1 1140 := ⟨by decide +kernel, rfl⟩
theorem dl_1140 : zD code 1140 (.invokevirtual 132) 3 1143 := ⟨by decide +kernel, rfl⟩
theorem dl_1143 : zD code 1143 (.aload_n 2) 1 1144 := ⟨by decide +kernel, rfl⟩
theorem dl_1144 : zD code 1144 (.aload_n 0) 1 1145 := ⟨by decide +kernel, rfl⟩
theorem dl_1145 : zD code 1145 (.iload_n 3) 1 1146 := ⟨by decide +kernel, rfl⟩
theorem dl_1146 : zD code 1146 (.iconst 1) 1 1147 := ⟨by decide +kernel, rfl⟩
theorem dl_1147 : zD code 1147 (.iadd) 1 1148 := ⟨by decide +kernel, rfl⟩
theorem dl_1148 : zD code 1148 (.iaload) 1 1149 := ⟨by decide +kernel, rfl⟩
theorem dl_1149 : zD code 1149 (.invokevirtual 135) 3 1152 := ⟨by decide +kernel, rfl⟩
theorem dl_1152 : zD code 1152 (.if_icmp .eq 502) 3 1155 := ⟨by decide +kernel, rfl⟩
theorem dl_1155 : zD code 1155 (.iconst 0) 1 1156 := ⟨by decide +kernel, rfl⟩
theorem dl_1156 : zD code 1156 (.ireturn) 1 1157 := ⟨by decide +kernel, rfl⟩
theorem dl_1157 : zD code 1157 (.aload_n 1) 1 1158 := ⟨by decide +kernel, rfl⟩
theorem dl_1158 : zD code 1158 (.aload_n 0) 1 1159 := ⟨by decide +kernel, rfl⟩
theorem dl_1159 : zD code 1159 (.iload_n 3) 1 1160 := ⟨by decide +kernel, rfl⟩
theorem dl_1160 : zD code 1160 (.iconst 1) 1 1161 := ⟨by decide +kernel, rfl⟩
theorem dl_1161 : zD code 1161 (.iadd) 1 1162 := ⟨by decide +kernel, rfl⟩
theorem dl_1162 : zD code 1162 (.iaload) 1 1163 := ⟨by decide +kernel, rfl⟩
theorem dl_1163 : zD code 1163 (.invokevirtual 136) 3 1166 := ⟨by decide +kernel, rfl⟩
theorem dl_1166 : zD code 1166 (.aload_n 2) 1 1167 := ⟨by decide +kernel, rfl⟩
theorem dl_1167 : zD code 1167 (.aload_n 0) 1 1168 := ⟨by decide +kernel, rfl⟩
theorem dl_1168 : zD code 1168 (.iload_n 3) 1 1169 := ⟨by decide +kernel, rfl⟩
theorem dl_1169 : zD code 1169 (.iconst 1) 1 1170 := ⟨by decide +kernel, rfl⟩
theorem dl_1170 : zD code 1170 (.iadd) 1 1171 := ⟨by decide +kernel, rfl⟩
theorem dl_1171 : zD code 1171 (.iaload) 1 1172 := ⟨by decide +kernel, rfl⟩
theorem dl_1172 : zD code 1172 (.invokevirtual 139) 3 1175 := ⟨by decide +kernel, rfl⟩
theorem dl_1175 : zD code 1175 (.if_icmp .eq 479) 3 1178 := ⟨by decide +kernel, rfl⟩
theorem dl_1178 : zD code 1178 (.iconst 0) 1 1179 := ⟨by decide +kernel, rfl⟩
theorem dl_1179 : zD code 1179 (.ireturn) 1 1180 := ⟨by decide +kernel, rfl⟩
theorem dl_1180 : zD code 1180 (.aload_n 1) 1 1181 := ⟨by decide +kernel, rfl⟩
theorem dl_1181 : zD code 1181 (.aload_n 0) 1 1182 := ⟨by decide +kernel, rfl⟩
theorem dl_1182 : zD code 1182 (.iload_n 3) 1 1183 := ⟨by decide +kernel, rfl⟩
theorem dl_1183 : zD code 1183 (.iconst 1) 1 1184 := ⟨by decide +kernel, rfl⟩
theorem dl_1184 : zD code 1184 (.iadd) 1 1185 := ⟨by decide +kernel, rfl⟩
theorem dl_1185 : zD code 1185 (.iaload) 1 1186 := ⟨by decide +kernel, rfl⟩
theorem dl_1186 : zD code 1186 (.aload_n 0) 1 1187 := ⟨by decide +kernel, rfl⟩
theorem dl_1187 : zD code 1187 (.iload_n 3) 1 1188 := ⟨by decide +kernel, rfl⟩
theorem dl_1188 : zD code 1188 (.iconst 2) 1 1189 := ⟨by decide +kernel, rfl⟩
theorem dl_1189 : zD code 1189 (.iadd) 1 1190 := ⟨by decide +kernel, rfl⟩
theorem dl_1190 : zD code 1190 (.iaload) 1 1191 := ⟨by decide +kernel, rfl⟩
theorem dl_1191 : zD code 1191 (.invokevirtual 140) 3 1194 := ⟨by decide +kernel, rfl⟩
theorem dl_1194 : zD code 1194 (.aload_n 2) 1 1195 := ⟨by decide +kernel, rfl⟩
theorem dl_1195 : zD code 1195 (.aload_n 0) 1 1196 := ⟨by decide +kernel, rfl⟩
theorem dl_1196 : zD code 1196 (.iload_n 3) 1 1197 := ⟨by decide +kernel, rfl⟩
theorem dl_1197 : zD code 1197 (.iconst 1) 1 1198 := ⟨by decide +kernel, rfl⟩
theorem dl_1198 : zD code 1198 (.iadd) 1 1199 := ⟨by decide +kernel, rfl⟩
theorem dl_1199 : zD code 1199 (.iaload) 1 1200 := ⟨by decide +kernel, rfl⟩
theorem dl_1200 : zD code 1200 (.aload_n 0) 1 1201 := ⟨by decide +kernel, rfl⟩
theorem dl_1201 : zD code 1201 (.iload_n 3) 1 1202 := ⟨by decide +kernel, rfl⟩
theorem dl_1202 : zD code 1202 (.iconst 2) 1 1203 := ⟨by decide +kernel, rfl⟩
theorem dl_1203 : zD code 1203 (.iadd) 1 1204 := ⟨by decide +kernel, rfl⟩
theorem dl_1204 : zD code 1204 (.iaload) 1 1205 := ⟨by decide +kernel, rfl⟩
theorem dl_1205 : zD code 1205 (.invokevirtual 143) 3 1208 := ⟨by decide +kernel, rfl⟩
theorem dl_1208 : zD code 1208 (.if_icmp .eq 446) 3 1211 := ⟨by decide +kernel, rfl⟩
theorem dl_1211 : zD code 1211 (.iconst 0) 1 1212 := ⟨by decide +kernel, rfl⟩
theorem dl_1212 : zD code 1212 (.ireturn) 1 1213 := ⟨by decide +kernel, rfl⟩
theorem dl_1213 : zD code 1213 (.aload_n 1) 1 1214 := ⟨by decide +kernel, rfl⟩
theorem dl_1214 : zD code 1214 (.invokevirtual 144) 3 1217 := ⟨by decide +kernel, rfl⟩
theorem dl_1217 : zD code 1217 (.aload_n 2) 1 1218 := ⟨by decide +kernel, rfl⟩
theorem dl_1218 : zD code 1218 (.invokevirtual 147) 3 1221 := ⟨by decide +kernel, rfl⟩
theorem dl_1221 : zD code 1221 (.if_icmp .eq 433) 3 1224 := ⟨by decide +kernel, rfl⟩
theorem dl_1224 : zD code 1224 (.iconst 0) 1 1225 := ⟨by decide +kernel, rfl⟩
theorem dl_1225 : zD code 1225 (.ireturn) 1 1226 := ⟨by decide +kernel, rfl⟩
theorem dl_1226 : zD code 1226 (.aload_n 1) 1 1227 := ⟨by decide +kernel, rfl⟩
theorem dl_1227 : zD code 1227 (.invokevirtual 148) 3 1230 := ⟨by decide +kernel, rfl⟩
theorem dl_1230 : zD code 1230 (.aload_n 2) 1 1231 := ⟨by decide +kernel, rfl⟩
theorem dl_1231 : zD code 1231 (.invokevirtual 151) 3 1234 := ⟨by decide +kernel, rfl⟩
theorem dl_1234 : zD code 1234 (.if_icmp .eq 420) 3 1237 := ⟨by decide +kernel, rfl⟩
theorem dl_1237 : zD code 1237 (.iconst 0) 1 1238 := ⟨by decide +kernel, rfl⟩
theorem dl_1238 : zD code 1238 (.ireturn) 1 1239 := ⟨by decide +kernel, rfl⟩
theorem dl_1239 : zD code 1239 (.aload_n 1) 1 1240 := ⟨by decide +kernel, rfl⟩
theorem dl_1240 : zD code 1240 (.aload_n 0) 1 1241 := ⟨by decide +kernel, rfl⟩
theorem dl_1241 : zD code 1241 (.iload_n 3) 1 1242 := ⟨by decide +kernel, rfl⟩
theorem dl_1242 : zD code 1242 (.iconst 1) 1 1243 := ⟨by decide +kernel, rfl⟩
theorem dl_1243 : zD code 1243 (.iadd) 1 1244 := ⟨by decide +kernel, rfl⟩
theorem dl_1244 : zD code 1244 (.iaload) 1 1245 := ⟨by decide +kernel, rfl⟩
theorem dl_1245 : zD code 1245 (.invokevirtual 152) 3 1248 := ⟨by decide +kernel, rfl⟩
theorem dl_1248 : zD code 1248 (.aload_n 2) 1 1249 := ⟨by decide +kernel, rfl⟩
theorem dl_1249 : zD code 1249 (.aload_n 0) 1 1250 := ⟨by decide +kernel, rfl⟩
theorem dl_1250 : zD code 1250 (.iload_n 3) 1 1251 := ⟨by decide +kernel, rfl⟩
theorem dl_1251 : zD code 1251 (.iconst 1) 1 1252 := ⟨by decide +kernel, rfl⟩
theorem dl_1252 : zD code 1252 (.iadd) 1 1253 := ⟨by decide +kernel, rfl⟩
theorem dl_1253 : zD code 1253 (.iaload) 1 1254 := ⟨by decide +kernel, rfl⟩
theorem dl_1254 : zD code 1254 (.invokevirtual 155) 3 1257 := ⟨by decide +kernel, rfl⟩
theorem dl_1257 : zD code 1257 (.if_icmp .eq 397) 3 1260 := ⟨by decide +kernel, rfl⟩
theorem dl_1260 : zD code 1260 (.iconst 0) 1 1261 := ⟨by decide +kernel, rfl⟩
theorem dl_1261 : zD code 1261 (.ireturn) 1 1262 := ⟨by decide +kernel, rfl⟩
theorem dl_1262 : zD code 1262 (.aload_n 1) 1 1263 := ⟨by decide +kernel, rfl⟩
theorem dl_1263 : zD code 1263 (.invokevirtual 156) 3 1266 := ⟨by decide +kernel, rfl⟩
theorem dl_1266 : zD code 1266 (.aload_n 2) 1 1267 := ⟨by decide +kernel, rfl⟩
theorem dl_1267 : zD code 1267 (.invokevirtual 159) 3 1270 := ⟨by decide +kernel, rfl⟩
theorem dl_1270 : zD code 1270 (.if_icmp .eq 384) 3 1273 := ⟨by decide +kernel, rfl⟩
theorem dl_1273 : zD code 1273 (.iconst 0) 1 1274 := ⟨by decide +kernel, rfl⟩
theorem dl_1274 : zD code 1274 (.ireturn) 1 1275 := ⟨by decide +kernel, rfl⟩
theorem dl_1275 : zD code 1275 (.aload_n 1) 1 1276 := ⟨by decide +kernel, rfl⟩
theorem dl_1276 : zD code 1276 (.aload_n 0) 1 1277 := ⟨by decide +kernel, rfl⟩
theorem dl_1277 : zD code 1277 (.iload_n 3) 1 1278 := ⟨by decide +kernel, rfl⟩
theorem dl_1278 : zD code 1278 (.iconst 1) 1 1279 := ⟨by decide +kernel, rfl⟩
theorem dl_1279 : zD code 1279 (.iadd) 1 1280 := ⟨by decide +kernel, rfl⟩
theorem dl_1280 : zD code 1280 (.iaload) 1 1281 := ⟨by decide +kernel, rfl⟩
theorem dl_1281 : zD code 1281 (.invokevirtual 160) 3 1284 := ⟨by decide +kernel, rfl⟩
theorem dl_1284 : zD code 1284 (.aload_n 2) 1 1285 := ⟨by decide +kernel, rfl⟩
theorem dl_1285 : zD code 1285 (.aload_n 0) 1 1286 := ⟨by decide +kernel, rfl⟩
theorem dl_1286 : zD code 1286 (.iload_n 3) 1 1287 := ⟨by decide +kernel, rfl⟩
theorem dl_1287 : zD code 1287 (.iconst 1) 1 1288 := ⟨by decide +kernel, rfl⟩
theorem dl_1288 : zD code 1288 (.iadd) 1 1289 := ⟨by decide +kernel, rfl⟩
theorem dl_1289 : zD code 1289 (.iaload) 1 1290 := ⟨by decide +kernel, rfl⟩
theorem dl_1290 : zD code 1290 (.invokevirtual 163) 3 1293 := ⟨by decide +kernel, rfl⟩
theorem dl_1293 : zD code 1293 (.if_icmp .eq 361) 3 1296 := ⟨by decide +kernel, rfl⟩
theorem dl_1296 : zD code 1296 (.iconst 0) 1 1297 := ⟨by decide +kernel, rfl⟩
theorem dl_1297 : zD code 1297 (.ireturn) 1 1298 := ⟨by decide +kernel, rfl⟩
theorem dl_1298 : zD code 1298 (.aload_n 1) 1 1299 := ⟨by decide +kernel, rfl⟩
theorem dl_1299 : zD code 1299 (.aload_n 0) 1 1300 := ⟨by decide +kernel, rfl⟩
theorem dl_1300 : zD code 1300 (.iload_n 3) 1 1301 := ⟨by decide +kernel, rfl⟩
theorem dl_1301 : zD code 1301 (.iconst 1) 1 1302 := ⟨by decide +kernel, rfl⟩
theorem dl_1302 : zD code 1302 (.iadd) 1 1303 := ⟨by decide +kernel, rfl⟩
theorem dl_1303 : zD code 1303 (.iaload) 1 1304 := ⟨by decide +kernel, rfl⟩
theorem dl_1304 : zD code 1304 (.aload_n 0) 1 1305 := ⟨by decide +kernel, rfl⟩
theorem dl_1305 : zD code 1305 (.iload_n 3) 1 1306 := ⟨by decide +kernel, rfl⟩
theorem dl_1306 : zD code 1306 (.iconst 2) 1 1307 := ⟨by decide +kernel, rfl⟩
theorem dl_1307 : zD code 1307 (.iadd) 1 1308 := ⟨by decide +kernel, rfl⟩
theorem dl_1308 : zD code 1308 (.iaload) 1 1309 := ⟨by decide +kernel, rfl⟩
theorem dl_1309 : zD code 1309 (.aload_n 0) 1 1310 := ⟨by decide +kernel, rfl⟩
theorem dl_1310 : zD code 1310 (.iload_n 3) 1 1311 := ⟨by decide +kernel, rfl⟩
theorem dl_1311 : zD code 1311 (.iconst 3) 1 1312 := ⟨by decide +kernel, rfl⟩
theorem dl_1312 : zD code 1312 (.iadd) 1 1313 := ⟨by decide +kernel, rfl⟩
theorem dl_1313 : zD code 1313 (.iaload) 1 1314 := ⟨by decide +kernel, rfl⟩
theorem dl_1314 : zD code 1314 (.invokevirtual 164) 3 1317 := ⟨by decide +kernel, rfl⟩
theorem dl_1317 : zD code 1317 (.aload_n 2) 1 1318 := ⟨by decide +kernel, rfl⟩
theorem dl_1318 : zD code 1318 (.aload_n 0) 1 1319 := ⟨by decide +kernel, rfl⟩
theorem dl_1319 : zD code 1319 (.iload_n 3) 1 1320 := ⟨by decide +kernel, rfl⟩
theorem dl_1320 : zD code 1320 (.iconst 1) 1 1321 := ⟨by decide +kernel, rfl⟩
theorem dl_1321 : zD code 1321 (.iadd) 1 1322 := ⟨by decide +kernel, rfl⟩
theorem dl_1322 : zD code 1322 (.iaload) 1 1323 := ⟨by decide +kernel, rfl⟩
theorem dl_1323 : zD code 1323 (.aload_n 0) 1 1324 := ⟨by decide +kernel, rfl⟩
theorem dl_1324 : zD code 1324 (.iload_n 3) 1 1325 := ⟨by decide +kernel, rfl⟩
theorem dl_1325 : zD code 1325 (.iconst 2) 1 1326 := ⟨by decide +kernel, rfl⟩
theorem dl_1326 : zD code 1326 (.iadd) 1 1327 := ⟨by decide +kernel, rfl⟩
theorem dl_1327 : zD code 1327 (.iaload) 1 1328 := ⟨by decide +kernel, rfl⟩
theorem dl_1328 : zD code 1328 (.aload_n 0) 1 1329 := ⟨by decide +kernel, rfl⟩
theorem dl_1329 : zD code 1329 (.iload_n 3) 1 1330 := ⟨by decide +kernel, rfl⟩
theorem dl_1330 : zD code 1330 (.iconst 3) 1 1331 := ⟨by decide +kernel, rfl⟩
theorem dl_1331 : zD code 1331 (.iadd) 1 1332 := ⟨by decide +kernel, rfl⟩
theorem dl_1332 : zD code 1332 (.iaload) 1 1333 := ⟨by decide +kernel, rfl⟩
theorem dl_1333 : zD code 1333 (.invokevirtual 167) 3 1336 := ⟨by decide +kernel, rfl⟩
theorem dl_1336 : zD code 1336 (.if_icmp .eq 318) 3 1339 := ⟨by decide +kernel, rfl⟩
theorem dl_1339 : zD code 1339 (.iconst 0) 1 1340 := ⟨by decide +kernel, rfl⟩
theorem dl_1340 : zD code 1340 (.ireturn) 1 1341 := ⟨by decide +kernel, rfl⟩
theorem dl_1341 : zD code 1341 (.aload_n 1) 1 1342 := ⟨by decide +kernel, rfl⟩
theorem dl_1342 : zD code 1342 (.aload_n 0) 1 1343 := ⟨by decide +kernel, rfl⟩
theorem dl_1343 : zD code 1343 (.iload_n 3) 1 1344 := ⟨by decide +kernel, rfl⟩
theorem dl_1344 : zD code 1344 (.iconst 1) 1 1345 := ⟨by decide +kernel, rfl⟩
theorem dl_1345 : zD code 1345 (.iadd) 1 1346 := ⟨by decide +kernel, rfl⟩
theorem dl_1346 : zD code 1346 (.iaload) 1 1347 := ⟨by decide +kernel, rfl⟩
theorem dl_1347 : zD code 1347 (.invokevirtual 168) 3 1350 := ⟨by decide +kernel, rfl⟩
theorem dl_1350 : zD code 1350 (.aload_n 2) 1 1351 := ⟨by decide +kernel, rfl⟩
theorem dl_1351 : zD code 1351 (.aload_n 0) 1 1352 := ⟨by decide +kernel, rfl⟩
theorem dl_1352 : zD code 1352 (.iload_n 3) 1 1353 := ⟨by decide +kernel, rfl⟩
theorem dl_1353 : zD code 1353 (.iconst 1) 1 1354 := ⟨by decide +kernel, rfl⟩
theorem dl_1354 : zD code 1354 (.iadd) 1 1355 := ⟨by decide +kernel, rfl⟩
theorem dl_1355 : zD code 1355 (.iaload) 1 1356 := ⟨by decide +kernel, rfl⟩
theorem dl_1356 : zD code 1356 (.invokevirtual 171) 3 1359 := ⟨by decide +kernel, rfl⟩
theorem dl_1359 : zD code 1359 (.if_icmp .eq 295) 3 1362 := ⟨by decide +kernel, rfl⟩
theorem dl_1362 : zD code 1362 (.iconst 0) 1 1363 := ⟨by decide +kernel, rfl⟩
theorem dl_1363 : zD code 1363 (.ireturn) 1 1364 := ⟨by decide +kernel, rfl⟩
theorem dl_1364 : zD code 1364 (.aload_n 1) 1 1365 := ⟨by decide +kernel, rfl⟩
theorem dl_1365 : zD code 1365 (.aload_n 0) 1 1366 := ⟨by decide +kernel, rfl⟩
theorem dl_1366 : zD code 1366 (.iload_n 3) 1 1367 := ⟨by decide +kernel, rfl⟩
theorem dl_1367 : zD code 1367 (.iconst 1) 1 1368 := ⟨by decide +kernel, rfl⟩
theorem dl_1368 : zD code 1368 (.iadd) 1 1369 := ⟨by decide +kernel, rfl⟩
theorem dl_1369 : zD code 1369 (.iaload) 1 1370 := ⟨by decide +kernel, rfl⟩
theorem dl_1370 : zD code 1370 (.aload_n 0) 1 1371 := ⟨by decide +kernel, rfl⟩
theorem dl_1371 : zD code 1371 (.iload_n 3) 1 1372 := ⟨by decide +kernel, rfl⟩
theorem dl_1372 : zD code 1372 (.iconst 2) 1 1373 := ⟨by decide +kernel, rfl⟩
theorem dl_1373 : zD code 1373 (.iadd) 1 1374 := ⟨by decide +kernel, rfl⟩
theorem dl_1374 : zD code 1374 (.iaload) 1 1375 := ⟨by decide +kernel, rfl⟩
theorem dl_1375 : zD code 1375 (.aload_n 0) 1 1376 := ⟨by decide +kernel, rfl⟩
theorem dl_1376 : zD code 1376 (.iload_n 3) 1 1377 := ⟨by decide +kernel, rfl⟩
theorem dl_1377 : zD code 1377 (.iconst 3) 1 1378 := ⟨by decide +kernel, rfl⟩
theorem dl_1378 : zD code 1378 (.iadd) 1 1379 := ⟨by decide +kernel, rfl⟩
theorem dl_1379 : zD code 1379 (.iaload) 1 1380 := ⟨by decide +kernel, rfl⟩
theorem dl_1380 : zD code 1380 (.invokevirtual 172) 3 1383 := ⟨by decide +kernel, rfl⟩
theorem dl_1383 : zD code 1383 (.aload_n 2) 1 1384 := ⟨by decide +kernel, rfl⟩
theorem dl_1384 : zD code 1384 (.aload_n 0) 1 1385 := ⟨by decide +kernel, rfl⟩
theorem dl_1385 : zD code 1385 (.iload_n 3) 1 1386 := ⟨by decide +kernel, rfl⟩
theorem dl_1386 : zD code 1386 (.iconst 1) 1 1387 := ⟨by decide +kernel, rfl⟩
theorem dl_1387 : zD code 1387 (.iadd) 1 1388 := ⟨by decide +kernel, rfl⟩
theorem dl_1388 : zD code 1388 (.iaload) 1 1389 := ⟨by decide +kernel, rfl⟩
theorem dl_1389 : zD code 1389 (.aload_n 0) 1 1390 := ⟨by decide +kernel, rfl⟩
theorem dl_1390 : zD code 1390 (.iload_n 3) 1 1391 := ⟨by decide +kernel, rfl⟩
theorem dl_1391 : zD code 1391 (.iconst 2) 1 1392 := ⟨by decide +kernel, rfl⟩
theorem dl_1392 : zD code 1392 (.iadd) 1 1393 := ⟨by decide +kernel, rfl⟩
theorem dl_1393 : zD code 1393 (.iaload) 1 1394 := ⟨by decide +kernel, rfl⟩
theorem dl_1394 : zD code 1394 (.aload_n 0) 1 1395 := ⟨by decide +kernel, rfl⟩
theorem dl_1395 : zD code 1395 (.iload_n 3) 1 1396 := ⟨by decide +kernel, rfl⟩
theorem dl_1396 : zD code 1396 (.iconst 3) 1 1397 := ⟨by decide +kernel, rfl⟩
theorem dl_1397 : zD code 1397 (.iadd) 1 1398 := ⟨by decide +kernel, rfl⟩
theorem dl_1398 : zD code 1398 (.iaload) 1 1399 := ⟨by decide +kernel, rfl⟩
theorem dl_1399 : zD code 1399 (.invokevirtual 175) 3 1402 := ⟨by decide +kernel, rfl⟩
theorem dl_1402 : zD code 1402 (.if_icmp .eq 252) 3 1405 := ⟨by decide +kernel, rfl⟩
theorem dl_1405 : zD code 1405 (.iconst 0) 1 1406 := ⟨by decide +kernel, rfl⟩
theorem dl_1406 : zD code 1406 (.ireturn) 1 1407 := ⟨by decide +kernel, rfl⟩
theorem dl_1407 : zD code 1407 (.aload_n 1) 1 1408 := ⟨by decide +kernel, rfl⟩
theorem dl_1408 : zD code 1408 (.aload_n 0) 1 1409 := ⟨by decide +kernel, rfl⟩
theorem dl_1409 : zD code 1409 (.iload_n 3) 1 1410 := ⟨by decide +kernel, rfl⟩
theorem dl_1410 : zD code 1410 (.iconst 1) 1 1411 := ⟨by decide +kernel, rfl⟩
theorem dl_1411 : zD code 1411 (.iadd) 1 1412 := ⟨by decide +kernel, rfl⟩
theorem dl_1412 : zD code 1412 (.iaload) 1 1413 := ⟨by decide +kernel, rfl⟩
theorem dl_1413 : zD code 1413 (.aload_n 0) 1 1414 := ⟨by decide +kernel, rfl⟩
theorem dl_1414 : zD code 1414 (.iload_n 3) 1 1415 := ⟨by decide +kernel, rfl⟩
theorem dl_1415 : zD code 1415 (.iconst 2) 1 1416 := ⟨by decide +kernel, rfl⟩
theorem dl_1416 : zD code 1416 (.iadd) 1 1417 := ⟨by decide +kernel, rfl⟩
theorem dl_1417 : zD code 1417 (.iaload) 1 1418 := ⟨by decide +kernel, rfl⟩
theorem dl_1418 : zD code 1418 (.aload_n 0) 1 1419 := ⟨by decide +kernel, rfl⟩
theorem dl_1419 : zD code 1419 (.iload_n 3) 1 1420 := ⟨by decide +kernel, rfl⟩
theorem dl_1420 : zD code 1420 (.iconst 3) 1 1421 := ⟨by decide +kernel, rfl⟩
theorem dl_1421 : zD code 1421 (.iadd) 1 1422 := ⟨by decide +kernel, rfl⟩
theorem dl_1422 : zD code 1422 (.iaload) 1 1423 := ⟨by decide +kernel, rfl⟩
theorem dl_1423 : zD code 1423 (.invokevirtual 176) 3 1426 := ⟨by decide +kernel, rfl⟩
theorem dl_1426 : zD code 1426 (.aload_n 2) 1 1427 := ⟨by decide +kernel, rfl⟩
theorem dl_1427 : zD code 1427 (.aload_n 0) 1 1428 := ⟨by decide +kernel, rfl⟩
theorem dl_1428 : zD code 1428 (.iload_n 3) 1 1429 := ⟨by decide +kernel, rfl⟩
theorem dl_1429 : zD code 1429 (.iconst 1) 1 1430 := ⟨by decide +kernel, rfl⟩
theorem dl_1430 : zD code 1430 (.iadd) 1 1431 := ⟨by decide +kernel, rfl⟩
theorem dl_1431 : zD code 1431 (.iaload) 1 1432 := ⟨by decide +kernel, rfl⟩
theorem dl_1432 : zD code 1432 (.aload_n 0) 1 1433 := ⟨by decide +kernel, rfl⟩
theorem dl_1433 : zD code 1433 (.iload_n 3) 1 1434 := ⟨by decide +kernel, rfl⟩
theorem dl_1434 : zD code 1434 (.iconst 2) 1 1435 := ⟨by decide +kernel, rfl⟩
theorem dl_1435 : zD code 1435 (.iadd) 1 1436 := ⟨by decide +kernel, rfl⟩
theorem dl_1436 : zD code 1436 (.iaload) 1 1437 := ⟨by decide +kernel, rfl⟩
theorem dl_1437 : zD code 1437 (.aload_n 0) 1 1438 := ⟨by decide +kernel, rfl⟩
theorem dl_1438 : zD code 1438 (.iload_n 3) 1 1439 := ⟨by decide +kernel, rfl⟩
theorem dl_1439 : zD code 1439 (.iconst 3) 1 1440 := ⟨by decide +kernel, rfl⟩
theorem dl_1440 : zD code 1440 (.iadd) 1 1441 := ⟨by decide +kernel, rfl⟩
theorem dl_1441 : zD code 1441 (.iaload) 1 1442 := ⟨by decide +kernel, rfl⟩
theorem dl_1442 : zD code 1442 (.invokevirtual 179) 3 1445 := ⟨by decide +kernel, rfl⟩
theorem dl_1445 : zD code 1445 (.if_icmp .eq 209) 3 1448 := ⟨by decide +kernel, rfl⟩
theorem dl_1448 : zD code 1448 (.iconst 0) 1 1449 := ⟨by decide +kernel, rfl⟩
theorem dl_1449 : zD code 1449 (.ireturn) 1 1450 := ⟨by decide +kernel, rfl⟩
theorem dl_1450 : zD code 1450 (.aload_n 1) 1 1451 := ⟨by decide +kernel, rfl⟩
theorem dl_1451 : zD code 1451 (.aload_n 0) 1 1452 := ⟨by decide +kernel, rfl⟩
theorem dl_1452 : zD code 1452 (.iload_n 3) 1 1453 := ⟨by decide +kernel, rfl⟩
theorem dl_1453 : zD code 1453 (.iconst 1) 1 1454 := ⟨by decide +kernel, rfl⟩
theorem dl_1454 : zD code 1454 (.iadd) 1 1455 := ⟨by decide +kernel, rfl⟩
theorem dl_1455 : zD code 1455 (.iaload) 1 1456 := ⟨by decide +kernel, rfl⟩
theorem dl_1456 : zD code 1456 (.aload_n 0) 1 1457 := ⟨by decide +kernel, rfl⟩
theorem dl_1457 : zD code 1457 (.iload_n 3) 1 1458 := ⟨by decide +kernel, rfl⟩
theorem dl_1458 : zD code 1458 (.iconst 2) 1 1459 := ⟨by decide +kernel, rfl⟩
theorem dl_1459 : zD code 1459 (.iadd) 1 1460 := ⟨by decide +kernel, rfl⟩
theorem dl_1460 : zD code 1460 (.iaload) 1 1461 := ⟨by decide +kernel, rfl⟩
theorem dl_1461 : zD code 1461 (.aload_n 0) 1 1462 := ⟨by decide +kernel, rfl⟩
theorem dl_1462 : zD code 1462 (.iload_n 3) 1 1463 := ⟨by decide +kernel, rfl⟩
theorem dl_1463 : zD code 1463 (.iconst 3) 1 1464 := ⟨by decide +kernel, rfl⟩
theorem dl_1464 : zD code 1464 (.iadd) 1 1465 := ⟨by decide +kernel, rfl⟩
theorem dl_1465 : zD code 1465 (.iaload) 1 1466 := ⟨by decide +kernel, rfl⟩
theorem dl_1466 : zD code 1466 (.aload_n 0) 1 1467 := ⟨by decide +kernel, rfl⟩
theorem dl_1467 : zD code 1467 (.iload_n 3) 1 1468 := ⟨by decide +kernel, rfl⟩
theorem dl_1468 : zD code 1468 (.iconst 4) 1 1469 := ⟨by decide +kernel, rfl⟩
theorem dl_1469 : zD code 1469 (.iadd) 1 1470 := ⟨by decide +kernel, rfl⟩
theorem dl_1470 : zD code 1470 (.iaload) 1 1471 := ⟨by decide +kernel, rfl⟩
theorem dl_1471 : zD code 1471 (.aload_n 0) 1 1472 := ⟨by decide +kernel, rfl⟩
theorem dl_1472 : zD code 1472 (.iload_n 3) 1 1473 := ⟨by decide +kernel, rfl⟩
theorem dl_1473 : zD code 1473 (.iconst 5) 1 1474 := ⟨by decide +kernel, rfl⟩
theorem dl_1474 : zD code 1474 (.iadd) 1 1475 := ⟨by decide +kernel, rfl⟩
theorem dl_1475 : zD code 1475 (.iaload) 1 1476 := ⟨by decide +kernel, rfl⟩
theorem dl_1476 : zD code 1476 (.invokevirtual 180) 3 1479 := ⟨by decide +kernel, rfl⟩
theorem dl_1479 : zD code 1479 (.aload_n 2) 1 1480 := ⟨by decide +kernel, rfl⟩
theorem dl_1480 : zD code 1480 (.aload_n 0) 1 1481 := ⟨by decide +kernel, rfl⟩
theorem dl_1481 : zD code 1481 (.iload_n 3) 1 1482 := ⟨by decide +kernel, rfl⟩
theorem dl_1482 : zD code 1482 (.iconst 1) 1 1483 := ⟨by decide +kernel, rfl⟩
theorem dl_1483 : zD code 1483 (.iadd) 1 1484 := ⟨by decide +kernel, rfl⟩
theorem dl_1484 : zD code 1484 (.iaload) 1 1485 := ⟨by decide +kernel, rfl⟩
theorem dl_1485 : zD code 1485 (.aload_n 0) 1 1486 := ⟨by decide +kernel, rfl⟩
theorem dl_1486 : zD code 1486 (.iload_n 3) 1 1487 := ⟨by decide +kernel, rfl⟩
theorem dl_1487 : zD code 1487 (.iconst 2) 1 1488 := ⟨by decide +kernel, rfl⟩
theorem dl_1488 : zD code 1488 (.iadd) 1 1489 := ⟨by decide +kernel, rfl⟩
theorem dl_1489 : zD code 1489 (.iaload) 1 1490 := ⟨by decide +kernel, rfl⟩
theorem dl_1490 : zD code 1490 (.aload_n 0) 1 1491 := ⟨by decide +kernel, rfl⟩
theorem dl_1491 : zD code 1491 (.iload_n 3) 1 1492 := ⟨by decide +kernel, rfl⟩
theorem dl_1492 : zD code 1492 (.iconst 3) 1 1493 := ⟨by decide +kernel, rfl⟩
theorem dl_1493 : zD code 1493 (.iadd) 1 1494 := ⟨by decide +kernel, rfl⟩
theorem dl_1494 : zD code 1494 (.iaload) 1 1495 := ⟨by decide +kernel, rfl⟩
theorem dl_1495 : zD code 1495 (.aload_n 0) 1 1496 := ⟨by decide +kernel, rfl⟩
theorem dl_1496 : zD code 1496 (.iload_n 3) 1 1497 := ⟨by decide +kernel, rfl⟩
theorem dl_1497 : zD code 1497 (.iconst 4) 1 1498 := ⟨by decide +kernel, rfl⟩
theorem dl_1498 : zD code 1498 (.iadd) 1 1499 := ⟨by decide +kernel, rfl⟩
theorem dl_1499 : zD code 1499 (.iaload) 1 1500 := ⟨by decide +kernel, rfl⟩
theorem dl_1500 : zD code 1500 (.aload_n 0) 1 1501 := ⟨by decide +kernel, rfl⟩
theorem dl_1501 : zD code 1501 (.iload_n 3) 1 1502 := ⟨by decide +kernel, rfl⟩
theorem dl_1502 : zD code 1502 (.iconst 5) 1 1503 := ⟨by decide +kernel, rfl⟩
theorem dl_1503 : zD code 1503 (.iadd) 1 1504 := ⟨by decide +kernel, rfl⟩
theorem dl_1504 : zD code 1504 (.iaload) 1 1505 := ⟨by decide +kernel, rfl⟩
theorem dl_1505 : zD code 1505 (.invokevirtual 184) 3 1508 := ⟨by decide +kernel, rfl⟩
theorem dl_1508 : zD code 1508 (.if_icmp .eq 146) 3 1511 := ⟨by decide +kernel, rfl⟩
theorem dl_1511 : zD code 1511 (.iconst 0) 1 1512 := ⟨by decide +kernel, rfl⟩
theorem dl_1512 : zD code 1512 (.ireturn) 1 1513 := ⟨by decide +kernel, rfl⟩
theorem dl_1513 : zD code 1513 (.aload_n 1) 1 1514 := ⟨by decide +kernel, rfl⟩
theorem dl_1514 : zD code 1514 (.aload_n 0) 1 1515 := ⟨by decide +kernel, rfl⟩
theorem dl_1515 : zD code 1515 (.iload_n 3) 1 1516 := ⟨by decide +kernel, rfl⟩
theorem dl_1516 : zD code 1516 (.iconst 1) 1 1517 := ⟨by decide +kernel, rfl⟩
theorem dl_1517 : zD code 1517 (.iadd) 1 1518 := ⟨by decide +kernel, rfl⟩
theorem dl_1518 : zD code 1518 (.iaload) 1 1519 := ⟨by decide +kernel, rfl⟩
theorem dl_1519 : zD code 1519 (.invokevirtual 185) 3 1522 := ⟨by decide +kernel, rfl⟩
theorem dl_1522 : zD code 1522 (.aload_n 2) 1 1523 := ⟨by decide +kernel, rfl⟩
theorem dl_1523 : zD code 1523 (.aload_n 0) 1 1524 := ⟨by decide +kernel, rfl⟩
theorem dl_1524 : zD code 1524 (.iload_n 3) 1 1525 := ⟨by decide +kernel, rfl⟩
theorem dl_1525 : zD code 1525 (.iconst 1) 1 1526 := ⟨by decide +kernel, rfl⟩
theorem dl_1526 : zD code 1526 (.iadd) 1 1527 := ⟨by decide +kernel, rfl⟩
theorem dl_1527 : zD code 1527 (.iaload) 1 1528 := ⟨by decide +kernel, rfl⟩
theorem dl_1528 : zD code 1528 (.invokevirtual 188) 3 1531 := ⟨by decide +kernel, rfl⟩
theorem dl_1531 : zD code 1531 (.if_icmp .eq 123) 3 1534 := ⟨by decide +kernel, rfl⟩
theorem dl_1534 : zD code 1534 (.iconst 0) 1 1535 := ⟨by decide +kernel, rfl⟩
theorem dl_1535 : zD code 1535 (.ireturn) 1 1536 := ⟨by decide +kernel, rfl⟩
theorem dl_1536 : zD code 1536 (.aload_n 1) 1 1537 := ⟨by decide +kernel, rfl⟩
theorem dl_1537 : zD code 1537 (.invokevirtual 189) 3 1540 := ⟨by decide +kernel, rfl⟩
theorem dl_1540 : zD code 1540 (.aload_n 2) 1 1541 := ⟨by decide +kernel, rfl⟩
theorem dl_1541 : zD code 1541 (.invokevirtual 192) 3 1544 := ⟨by decide +kernel, rfl⟩
theorem dl_1544 : zD code 1544 (.if_icmp .eq 110) 3 1547 := ⟨by decide +kernel, rfl⟩
theorem dl_1547 : zD code 1547 (.iconst 0) 1 1548 := ⟨by decide +kernel, rfl⟩
theorem dl_1548 : zD code 1548 (.ireturn) 1 1549 := ⟨by decide +kernel, rfl⟩
theorem dl_1549 : zD code 1549 (.aload_n 1) 1 1550 := ⟨by decide +kernel, rfl⟩
theorem dl_1550 : zD code 1550 (.invokevirtual 193) 3 1553 := ⟨by decide +kernel, rfl⟩
theorem dl_1553 : zD code 1553 (.aload_n 2) 1 1554 := ⟨by decide +kernel, rfl⟩
theorem dl_1554 : zD code 1554 (.invokevirtual 196) 3 1557 := ⟨by decide +kernel, rfl⟩
theorem dl_1557 : zD code 1557 (.if_icmp .eq 97) 3 1560 := ⟨by decide +kernel, rfl⟩
theorem dl_1560 : zD code 1560 (.iconst 0) 1 1561 := ⟨by decide +kernel, rfl⟩
theorem dl_1561 : zD code 1561 (.ireturn) 1 1562 := ⟨by decide +kernel, rfl⟩
theorem dl_1562 : zD code 1562 (.aload_n 1) 1 1563 := ⟨by decide +kernel, rfl⟩
theorem dl_1563 : zD code 1563 (.aload_n 0) 1 1564 := ⟨by decide +kernel, rfl⟩
theorem dl_1564 : zD code 1564 (.iload_n 3) 1 1565 := ⟨by decide +kernel, rfl⟩
theorem dl_1565 : zD code 1565 (.iconst 1) 1 1566 := ⟨by decide +kernel, rfl⟩
theorem dl_1566 : zD code 1566 (.iadd) 1 1567 := ⟨by decide +kernel, rfl⟩
theorem dl_1567 : zD code 1567 (.iaload) 1 1568 := ⟨by decide +kernel, rfl⟩
theorem dl_1568 : zD code 1568 (.invokevirtual 197) 3 1571 := ⟨by decide +kernel, rfl⟩
theorem dl_1571 : zD code 1571 (.aload_n 2) 1 1572 := ⟨by decide +kernel, rfl⟩
theorem dl_1572 : zD code 1572 (.aload_n 0) 1 1573 := ⟨by decide +kernel, rfl⟩
theorem dl_1573 : zD code 1573 (.iload_n 3) 1 1574 := ⟨by decide +kernel, rfl⟩
theorem dl_1574 : zD code 1574 (.iconst 1) 1 1575 := ⟨by decide +kernel, rfl⟩
theorem dl_1575 : zD code 1575 (.iadd) 1 1576 := ⟨by decide +kernel, rfl⟩
theorem dl_1576 : zD code 1576 (.iaload) 1 1577 := ⟨by decide +kernel, rfl⟩
theorem dl_1577 : zD code 1577 (.invokevirtual 200) 3 1580 := ⟨by decide +kernel, rfl⟩
theorem dl_1580 : zD code 1580 (.if_icmp .eq 74) 3 1583 := ⟨by decide +kernel, rfl⟩
theorem dl_1583 : zD code 1583 (.iconst 0) 1 1584 := ⟨by decide +kernel, rfl⟩
theorem dl_1584 : zD code 1584 (.ireturn) 1 1585 := ⟨by decide +kernel, rfl⟩
theorem dl_1585 : zD code 1585 (.aload_n 1) 1 1586 := ⟨by decide +kernel, rfl⟩
theorem dl_1586 : zD code 1586 (.aload_n 0) 1 1587 := ⟨by decide +kernel, rfl⟩
theorem dl_1587 : zD code 1587 (.iload_n 3) 1 1588 := ⟨by decide +kernel, rfl⟩
theorem dl_1588 : zD code 1588 (.iconst 1) 1 1589 := ⟨by decide +kernel, rfl⟩
theorem dl_1589 : zD code 1589 (.iadd) 1 1590 := ⟨by decide +kernel, rfl⟩
theorem dl_1590 : zD code 1590 (.iaload) 1 1591 := ⟨by decide +kernel, rfl⟩
theorem dl_1591 : zD code 1591 (.invokevirtual 201) 3 1594 := ⟨by decide +kernel, rfl⟩
theorem dl_1594 : zD code 1594 (.aload_n 2) 1 1595 := ⟨by decide +kernel, rfl⟩
theorem dl_1595 : zD code 1595 (.aload_n 0) 1 1596 := ⟨by decide +kernel, rfl⟩
theorem dl_1596 : zD code 1596 (.iload_n 3) 1 1597 := ⟨by decide +kernel, rfl⟩
theorem dl_1597 : zD code 1597 (.iconst 1) 1 1598 := ⟨by decide +kernel, rfl⟩
theorem dl_1598 : zD code 1598 (.iadd) 1 1599 := ⟨by decide +kernel, rfl⟩
theorem dl_1599 : zD code 1599 (.iaload) 1 1600 := ⟨by decide +kernel, rfl⟩
theorem dl_1600 : zD code 1600 (.invokevirtual 204) 3 1603 := ⟨by decide +kernel, rfl⟩
theorem dl_1603 : zD code 1603 (.if_icmp .eq 51) 3 1606 := ⟨by decide +kernel, rfl⟩
theorem dl_1606 : zD code 1606 (.iconst 0) 1 1607 := ⟨by decide +kernel, rfl⟩
theorem dl_1607 : zD code 1607 (.ireturn) 1 1608 := ⟨by decide +kernel, rfl⟩
theorem dl_1608 : zD code 1608 (.aload_n 1) 1 1609 := ⟨by decide +kernel, rfl⟩
theorem dl_1609 : zD code 1609 (.aload_n 0) 1 1610 := ⟨by decide +kernel, rfl⟩
theorem dl_1610 : zD code 1610 (.iload_n 3) 1 1611 := ⟨by decide +kernel, rfl⟩
theorem dl_1611 : zD code 1611 (.iconst 1) 1 1612 := ⟨by decide +kernel, rfl⟩
theorem dl_1612 : zD code 1612 (.iadd) 1 1613 := ⟨by decide +kernel, rfl⟩
theorem dl_1613 : zD code 1613 (.iaload) 1 1614 := ⟨by decide +kernel, rfl⟩
theorem dl_1614 : zD code 1614 (.invokevirtual 205) 3 1617 := ⟨by decide +kernel, rfl⟩
theorem dl_1617 : zD code 1617 (.aload_n 2) 1 1618 := ⟨by decide +kernel, rfl⟩
theorem dl_1618 : zD code 1618 (.aload_n 0) 1 1619 := ⟨by decide +kernel, rfl⟩
theorem dl_1619 : zD code 1619 (.iload_n 3) 1 1620 := ⟨by decide +kernel, rfl⟩
theorem dl_1620 : zD code 1620 (.iconst 1) 1 1621 := ⟨by decide +kernel, rfl⟩
theorem dl_1621 : zD code 1621 (.iadd) 1 1622 := ⟨by decide +kernel, rfl⟩
theorem dl_1622 : zD code 1622 (.iaload) 1 1623 := ⟨by decide +kernel, rfl⟩
theorem dl_1623 : zD code 1623 (.invokevirtual 208) 3 1626 := ⟨by decide +kernel, rfl⟩
theorem dl_1626 : zD code 1626 (.if_icmp .eq 28) 3 1629 := ⟨by decide +kernel, rfl⟩
theorem dl_1629 : zD code 1629 (.iconst 0) 1 1630 := ⟨by decide +kernel, rfl⟩
theorem dl_1630 : zD code 1630 (.ireturn) 1 1631 := ⟨by decide +kernel, rfl⟩
theorem dl_1631 : zD code 1631 (.aload_n 1) 1 1632 := ⟨by decide +kernel, rfl⟩
theorem dl_1632 : zD code 1632 (.aload_n 0) 1 1633 := ⟨by decide +kernel, rfl⟩
theorem dl_1633 : zD code 1633 (.iload_n 3) 1 1634 := ⟨by decide +kernel, rfl⟩
theorem dl_1634 : zD code 1634 (.iconst 1) 1 1635 := ⟨by decide +kernel, rfl⟩
theorem dl_1635 : zD code 1635 (.iadd) 1 1636 := ⟨by decide +kernel, rfl⟩
theorem dl_1636 : zD code 1636 (.iaload) 1 1637 := ⟨by decide +kernel, rfl⟩
theorem dl_1637 : zD code 1637 (.invokevirtual 209) 3 1640 := ⟨by decide +kernel, rfl⟩
theorem dl_1640 : zD code 1640 (.aload_n 2) 1 1641 := ⟨by decide +kernel, rfl⟩
theorem dl_1641 : zD code 1641 (.aload_n 0) 1 1642 := ⟨by decide +kernel, rfl⟩
theorem dl_1642 : zD code 1642 (.iload_n 3) 1 1643 := ⟨by decide +kernel, rfl⟩
theorem dl_1643 : zD code 1643 (.iconst 1) 1 1644 := ⟨by decide +kernel, rfl⟩
theorem dl_1644 : zD code 1644 (.iadd) 1 1645 := ⟨by decide +kernel, rfl⟩
theorem dl_1645 : zD code 1645 (.iaload) 1 1646 := ⟨by decide +kernel, rfl⟩
theorem dl_1646 : zD code 1646 (.invokevirtual 212) 3 1649 := ⟨by decide +kernel, rfl⟩
theorem dl_1649 : zD code 1649 (.if_icmp .eq 5) 3 1652 := ⟨by decide +kernel, rfl⟩
theorem dl_1652 : zD code 1652 (.iconst 0) 1 1653 := ⟨by decide +kernel, rfl⟩
theorem dl_1653 : zD code 1653 (.ireturn) 1 1654 := ⟨by decide +kernel, rfl⟩
theorem dl_1654 : zD code 1654 (.iinc 3 6) 3 1657 := ⟨by decide +kernel, rfl⟩
theorem dl_1657 : zD code 1657 (.goto (-1639)) 3 1660 := ⟨by decide +kernel, rfl⟩
theorem dl_1660 : zD code 1660 (.iconst 1) 1 1661 := ⟨by decide +kernel, rfl⟩
theorem dl_1661 : zD code 1661 (.ireturn) 1 1662 := ⟨by decide +kernel, rfl⟩
