/-! The words of the law's own calls. -/
theorem zv_504 : (Jvm.Cond.methodLink "ErrataLandLaw" 13 ⟨"ErrataLand", "status", "()I"⟩) ∈ zAll := zWm 504 (by decide +kernel) rfl
theorem zv_505 : (Jvm.Cond.instanceMethod ⟨"ErrataLand", "status", "()I"⟩) ∈ zAll := zWm 505 (by decide +kernel) rfl
theorem zv_506 : (Jvm.Cond.selects "ErrataLand" ⟨"ErrataLand", "status", "()I"⟩ ⟨"ErrataLand", "status", "()I"⟩) ∈ zAll := zWm 506 (by decide +kernel) rfl
theorem zv_508 : (Jvm.Cond.methodLink "ErrataLandLaw" 18 ⟨"ErrataLand", "top", "()J"⟩) ∈ zAll := zWm 508 (by decide +kernel) rfl
theorem zv_509 : (Jvm.Cond.instanceMethod ⟨"ErrataLand", "top", "()J"⟩) ∈ zAll := zWm 509 (by decide +kernel) rfl
theorem zv_510 : (Jvm.Cond.selects "ErrataLand" ⟨"ErrataLand", "top", "()J"⟩ ⟨"ErrataLand", "top", "()J"⟩) ∈ zAll := zWm 510 (by decide +kernel) rfl
theorem zv_512 : (Jvm.Cond.methodLink "ErrataLandLaw" 23 ⟨"ErrataLand", "bottom", "()J"⟩) ∈ zAll := zWm 512 (by decide +kernel) rfl
theorem zv_513 : (Jvm.Cond.instanceMethod ⟨"ErrataLand", "bottom", "()J"⟩) ∈ zAll := zWm 513 (by decide +kernel) rfl
theorem zv_514 : (Jvm.Cond.selects "ErrataLand" ⟨"ErrataLand", "bottom", "()J"⟩ ⟨"ErrataLand", "bottom", "()J"⟩) ∈ zAll := zWm 514 (by decide +kernel) rfl
theorem zv_516 : (Jvm.Cond.methodLink "ErrataLandLaw" 27 ⟨"ErrataLand", "tray", "(III)Z"⟩) ∈ zAll := zWm 516 (by decide +kernel) rfl
theorem zv_517 : (Jvm.Cond.instanceMethod ⟨"ErrataLand", "tray", "(III)Z"⟩) ∈ zAll := zWm 517 (by decide +kernel) rfl
theorem zv_518 : (Jvm.Cond.selects "ErrataLand" ⟨"ErrataLand", "tray", "(III)Z"⟩ ⟨"ErrataLand", "tray", "(III)Z"⟩) ∈ zAll := zWm 518 (by decide +kernel) rfl
theorem zv_539 : (Jvm.Cond.methodLink "ErrataLandLaw" 34 ⟨"ErrataLand", "write", "(IIJ)Z"⟩) ∈ zAll := zWm 539 (by decide +kernel) rfl
theorem zv_540 : (Jvm.Cond.instanceMethod ⟨"ErrataLand", "write", "(IIJ)Z"⟩) ∈ zAll := zWm 540 (by decide +kernel) rfl
theorem zv_541 : (Jvm.Cond.selects "ErrataLand" ⟨"ErrataLand", "write", "(IIJ)Z"⟩ ⟨"ErrataLand", "write", "(IIJ)Z"⟩) ∈ zAll := zWm 541 (by decide +kernel) rfl
theorem zv_559 : (Jvm.Cond.methodLink "ErrataLandLaw" 39 ⟨"ErrataLand", "read", "(II)J"⟩) ∈ zAll := zWm 559 (by decide +kernel) rfl
theorem zv_560 : (Jvm.Cond.instanceMethod ⟨"ErrataLand", "read", "(II)J"⟩) ∈ zAll := zWm 560 (by decide +kernel) rfl
theorem zv_561 : (Jvm.Cond.selects "ErrataLand" ⟨"ErrataLand", "read", "(II)J"⟩ ⟨"ErrataLand", "read", "(II)J"⟩) ∈ zAll := zWm 561 (by decide +kernel) rfl
theorem zv_571 : (Jvm.Cond.methodLink "ErrataLandLaw" 44 ⟨"ErrataLand", "pou\x72", "(IIIII)Z"⟩) ∈ zAll := zWm 571 (by decide +kernel) rfl
theorem zv_572 : (Jvm.Cond.instanceMethod ⟨"ErrataLand", "pou\x72", "(IIIII)Z"⟩) ∈ zAll := zWm 572 (by decide +kernel) rfl
theorem zv_573 : (Jvm.Cond.selects "ErrataLand" ⟨"ErrataLand", "pou\x72", "(IIIII)Z"⟩ ⟨"ErrataLand", "pou\x72", "(IIIII)Z"⟩) ∈ zAll := zWm 573 (by decide +kernel) rfl
theorem zv_589 : (Jvm.Cond.methodLink "ErrataLandLaw" 49 ⟨"ErrataLand", "feed", "(IIIII)I"⟩) ∈ zAll := zWm 589 (by decide +kernel) rfl
theorem zv_590 : (Jvm.Cond.instanceMethod ⟨"ErrataLand", "feed", "(IIIII)I"⟩) ∈ zAll := zWm 590 (by decide +kernel) rfl
theorem zv_591 : (Jvm.Cond.selects "ErrataLand" ⟨"ErrataLand", "feed", "(IIIII)I"⟩ ⟨"ErrataLand", "feed", "(IIIII)I"⟩) ∈ zAll := zWm 591 (by decide +kernel) rfl
theorem zv_601 : (Jvm.Cond.methodLink "ErrataLandLaw" 54 ⟨"ErrataLand", "slip", "(I)I"⟩) ∈ zAll := zWm 601 (by decide +kernel) rfl
theorem zv_602 : (Jvm.Cond.instanceMethod ⟨"ErrataLand", "slip", "(I)I"⟩) ∈ zAll := zWm 602 (by decide +kernel) rfl
theorem zv_603 : (Jvm.Cond.selects "ErrataLand" ⟨"ErrataLand", "slip", "(I)I"⟩ ⟨"ErrataLand", "slip", "(I)I"⟩) ∈ zAll := zWm 603 (by decide +kernel) rfl
theorem zv_825 : (Jvm.Cond.methodLink "ErrataLandLaw" 59 ⟨"ErrataLand", "years", "(I)I"⟩) ∈ zAll := zWm 825 (by decide +kernel) rfl
theorem zv_826 : (Jvm.Cond.instanceMethod ⟨"ErrataLand", "years", "(I)I"⟩) ∈ zAll := zWm 826 (by decide +kernel) rfl
theorem zv_827 : (Jvm.Cond.selects "ErrataLand" ⟨"ErrataLand", "years", "(I)I"⟩ ⟨"ErrataLand", "years", "(I)I"⟩) ∈ zAll := zWm 827 (by decide +kernel) rfl
theorem zv_879 : (Jvm.Cond.methodLink "ErrataLandLaw" 63 ⟨"ErrataLand", "fault", "(I)I"⟩) ∈ zAll := zWm 879 (by decide +kernel) rfl
theorem zv_880 : (Jvm.Cond.instanceMethod ⟨"ErrataLand", "fault", "(I)I"⟩) ∈ zAll := zWm 880 (by decide +kernel) rfl
theorem zv_881 : (Jvm.Cond.selects "ErrataLand" ⟨"ErrataLand", "fault", "(I)I"⟩ ⟨"ErrataLand", "fault", "(I)I"⟩) ∈ zAll := zWm 881 (by decide +kernel) rfl
theorem zv_883 : (Jvm.Cond.methodLink "ErrataLandLaw" 67 ⟨"ErrataLand", "many", "(I)I"⟩) ∈ zAll := zWm 883 (by decide +kernel) rfl
theorem zv_884 : (Jvm.Cond.instanceMethod ⟨"ErrataLand", "many", "(I)I"⟩) ∈ zAll := zWm 884 (by decide +kernel) rfl
theorem zv_885 : (Jvm.Cond.selects "ErrataLand" ⟨"ErrataLand", "many", "(I)I"⟩ ⟨"ErrataLand", "many", "(I)I"⟩) ∈ zAll := zWm 885 (by decide +kernel) rfl
theorem zv_902 : (Jvm.Cond.methodLink "ErrataLandLaw" 71 ⟨"ErrataLand", "line", "(II)I"⟩) ∈ zAll := zWm 902 (by decide +kernel) rfl
theorem zv_903 : (Jvm.Cond.instanceMethod ⟨"ErrataLand", "line", "(II)I"⟩) ∈ zAll := zWm 903 (by decide +kernel) rfl
theorem zv_904 : (Jvm.Cond.selects "ErrataLand" ⟨"ErrataLand", "line", "(II)I"⟩ ⟨"ErrataLand", "line", "(II)I"⟩) ∈ zAll := zWm 904 (by decide +kernel) rfl
theorem zv_928 : (Jvm.Cond.methodLink "ErrataLandLaw" 76 ⟨"ErrataLand", "lineOf", "(I)I"⟩) ∈ zAll := zWm 928 (by decide +kernel) rfl
theorem zv_929 : (Jvm.Cond.instanceMethod ⟨"ErrataLand", "lineOf", "(I)I"⟩) ∈ zAll := zWm 929 (by decide +kernel) rfl
theorem zv_930 : (Jvm.Cond.selects "ErrataLand" ⟨"ErrataLand", "lineOf", "(I)I"⟩ ⟨"ErrataLand", "lineOf", "(I)I"⟩) ∈ zAll := zWm 930 (by decide +kernel) rfl
theorem zv_933 : (Jvm.Cond.methodLink "ErrataLandLaw" 80 ⟨"ErrataLand", "edit", "(III)I"⟩) ∈ zAll := zWm 933 (by decide +kernel) rfl
theorem zv_934 : (Jvm.Cond.instanceMethod ⟨"ErrataLand", "edit", "(III)I"⟩) ∈ zAll := zWm 934 (by decide +kernel) rfl
theorem zv_935 : (Jvm.Cond.selects "ErrataLand" ⟨"ErrataLand", "edit", "(III)I"⟩ ⟨"ErrataLand", "edit", "(III)I"⟩) ∈ zAll := zWm 935 (by decide +kernel) rfl
theorem zv_949 : (Jvm.Cond.methodLink "ErrataLandLaw" 85 ⟨"ErrataLand", "placeOf", "(I)I"⟩) ∈ zAll := zWm 949 (by decide +kernel) rfl
theorem zv_950 : (Jvm.Cond.instanceMethod ⟨"ErrataLand", "placeOf", "(I)I"⟩) ∈ zAll := zWm 950 (by decide +kernel) rfl
theorem zv_951 : (Jvm.Cond.selects "ErrataLand" ⟨"ErrataLand", "placeOf", "(I)I"⟩ ⟨"ErrataLand", "placeOf", "(I)I"⟩) ∈ zAll := zWm 951 (by decide +kernel) rfl
theorem zv_958 : (Jvm.Cond.methodLink "ErrataLandLaw" 89 ⟨"ErrataLand", "length", "(I)I"⟩) ∈ zAll := zWm 958 (by decide +kernel) rfl
theorem zv_959 : (Jvm.Cond.instanceMethod ⟨"ErrataLand", "length", "(I)I"⟩) ∈ zAll := zWm 959 (by decide +kernel) rfl
theorem zv_960 : (Jvm.Cond.selects "ErrataLand" ⟨"ErrataLand", "length", "(I)I"⟩ ⟨"ErrataLand", "length", "(I)I"⟩) ∈ zAll := zWm 960 (by decide +kernel) rfl
theorem zv_964 : (Jvm.Cond.methodLink "ErrataLandLaw" 93 ⟨"ErrataLand", "says", "(II)I"⟩) ∈ zAll := zWm 964 (by decide +kernel) rfl
theorem zv_965 : (Jvm.Cond.instanceMethod ⟨"ErrataLand", "says", "(II)I"⟩) ∈ zAll := zWm 965 (by decide +kernel) rfl
theorem zv_966 : (Jvm.Cond.selects "ErrataLand" ⟨"ErrataLand", "says", "(II)I"⟩ ⟨"ErrataLand", "says", "(II)I"⟩) ∈ zAll := zWm 966 (by decide +kernel) rfl
theorem zv_976 : (Jvm.Cond.methodLink "ErrataLandLaw" 97 ⟨"ErrataLand", "copyRow", "(II)I"⟩) ∈ zAll := zWm 976 (by decide +kernel) rfl
theorem zv_977 : (Jvm.Cond.instanceMethod ⟨"ErrataLand", "copyRow", "(II)I"⟩) ∈ zAll := zWm 977 (by decide +kernel) rfl
theorem zv_978 : (Jvm.Cond.selects "ErrataLand" ⟨"ErrataLand", "copyRow", "(II)I"⟩ ⟨"ErrataLand", "copyRow", "(II)I"⟩) ∈ zAll := zWm 978 (by decide +kernel) rfl
theorem zv_991 : (Jvm.Cond.methodLink "ErrataLandLaw" 101 ⟨"ErrataLand", "day", "(I)I"⟩) ∈ zAll := zWm 991 (by decide +kernel) rfl
theorem zv_992 : (Jvm.Cond.instanceMethod ⟨"ErrataLand", "day", "(I)I"⟩) ∈ zAll := zWm 992 (by decide +kernel) rfl
theorem zv_993 : (Jvm.Cond.selects "ErrataLand" ⟨"ErrataLand", "day", "(I)I"⟩ ⟨"ErrataLand", "day", "(I)I"⟩) ∈ zAll := zWm 993 (by decide +kernel) rfl
theorem zv_1025 : (Jvm.Cond.methodLink "ErrataLandLaw" 105 ⟨"ErrataLand", "go", "(II)I"⟩) ∈ zAll := zWm 1025 (by decide +kernel) rfl
theorem zv_1026 : (Jvm.Cond.instanceMethod ⟨"ErrataLand", "go", "(II)I"⟩) ∈ zAll := zWm 1026 (by decide +kernel) rfl
theorem zv_1027 : (Jvm.Cond.selects "ErrataLand" ⟨"ErrataLand", "go", "(II)I"⟩ ⟨"ErrataLand", "go", "(II)I"⟩) ∈ zAll := zWm 1027 (by decide +kernel) rfl
theorem zv_1044 : (Jvm.Cond.methodLink "ErrataLandLaw" 109 ⟨"ErrataLand", "lose", "(IZ)Z"⟩) ∈ zAll := zWm 1044 (by decide +kernel) rfl
theorem zv_1045 : (Jvm.Cond.instanceMethod ⟨"ErrataLand", "lose", "(IZ)Z"⟩) ∈ zAll := zWm 1045 (by decide +kernel) rfl
theorem zv_1046 : (Jvm.Cond.selects "ErrataLand" ⟨"ErrataLand", "lose", "(IZ)Z"⟩ ⟨"ErrataLand", "lose", "(IZ)Z"⟩) ∈ zAll := zWm 1046 (by decide +kernel) rfl
theorem zv_1048 : (Jvm.Cond.methodLink "ErrataLandLaw" 114 ⟨"ErrataLand", "teach", "(III)I"⟩) ∈ zAll := zWm 1048 (by decide +kernel) rfl
theorem zv_1049 : (Jvm.Cond.instanceMethod ⟨"ErrataLand", "teach", "(III)I"⟩) ∈ zAll := zWm 1049 (by decide +kernel) rfl
theorem zv_1050 : (Jvm.Cond.selects "ErrataLand" ⟨"ErrataLand", "teach", "(III)I"⟩ ⟨"ErrataLand", "teach", "(III)I"⟩) ∈ zAll := zWm 1050 (by decide +kernel) rfl
theorem zv_1070 : (Jvm.Cond.methodLink "ErrataLandLaw" 118 ⟨"ErrataLand", "amend", "(IIIIZ)I"⟩) ∈ zAll := zWm 1070 (by decide +kernel) rfl
theorem zv_1071 : (Jvm.Cond.instanceMethod ⟨"ErrataLand", "amend", "(IIIIZ)I"⟩) ∈ zAll := zWm 1071 (by decide +kernel) rfl
theorem zv_1072 : (Jvm.Cond.selects "ErrataLand" ⟨"ErrataLand", "amend", "(IIIIZ)I"⟩ ⟨"ErrataLand", "amend", "(IIIIZ)I"⟩) ∈ zAll := zWm 1072 (by decide +kernel) rfl
theorem zv_1080 : (Jvm.Cond.methodLink "ErrataLandLaw" 123 ⟨"ErrataLand", "strike", "(II)I"⟩) ∈ zAll := zWm 1080 (by decide +kernel) rfl
theorem zv_1081 : (Jvm.Cond.instanceMethod ⟨"ErrataLand", "strike", "(II)I"⟩) ∈ zAll := zWm 1081 (by decide +kernel) rfl
theorem zv_1082 : (Jvm.Cond.selects "ErrataLand" ⟨"ErrataLand", "strike", "(II)I"⟩ ⟨"ErrataLand", "strike", "(II)I"⟩) ∈ zAll := zWm 1082 (by decide +kernel) rfl
theorem zv_1089 : (Jvm.Cond.methodLink "ErrataLandLaw" 127 ⟨"ErrataLand", "swap", "(III)Z"⟩) ∈ zAll := zWm 1089 (by decide +kernel) rfl
theorem zv_1090 : (Jvm.Cond.instanceMethod ⟨"ErrataLand", "swap", "(III)Z"⟩) ∈ zAll := zWm 1090 (by decide +kernel) rfl
theorem zv_1091 : (Jvm.Cond.selects "ErrataLand" ⟨"ErrataLand", "swap", "(III)Z"⟩ ⟨"ErrataLand", "swap", "(III)Z"⟩) ∈ zAll := zWm 1091 (by decide +kernel) rfl
theorem zv_1097 : (Jvm.Cond.methodLink "ErrataLandLaw" 131 ⟨"ErrataLand", "rule", "(I)Z"⟩) ∈ zAll := zWm 1097 (by decide +kernel) rfl
theorem zv_1098 : (Jvm.Cond.instanceMethod ⟨"ErrataLand", "rule", "(I)Z"⟩) ∈ zAll := zWm 1098 (by decide +kernel) rfl
theorem zv_1099 : (Jvm.Cond.selects "ErrataLand" ⟨"ErrataLand", "rule", "(I)Z"⟩ ⟨"ErrataLand", "rule", "(I)Z"⟩) ∈ zAll := zWm 1099 (by decide +kernel) rfl
theorem zv_1101 : (Jvm.Cond.methodLink "ErrataLandLaw" 136 ⟨"ErrataLand", "right", "(IIII)I"⟩) ∈ zAll := zWm 1101 (by decide +kernel) rfl
theorem zv_1102 : (Jvm.Cond.instanceMethod ⟨"ErrataLand", "right", "(IIII)I"⟩) ∈ zAll := zWm 1102 (by decide +kernel) rfl
theorem zv_1103 : (Jvm.Cond.selects "ErrataLand" ⟨"ErrataLand", "right", "(IIII)I"⟩ ⟨"ErrataLand", "right", "(IIII)I"⟩) ∈ zAll := zWm 1103 (by decide +kernel) rfl
theorem zv_1106 : (Jvm.Cond.methodLink "ErrataLandLaw" 141 ⟨"ErrataLand", "vain", "(III)I"⟩) ∈ zAll := zWm 1106 (by decide +kernel) rfl
theorem zv_1107 : (Jvm.Cond.instanceMethod ⟨"ErrataLand", "vain", "(III)I"⟩) ∈ zAll := zWm 1107 (by decide +kernel) rfl
theorem zv_1108 : (Jvm.Cond.selects "ErrataLand" ⟨"ErrataLand", "vain", "(III)I"⟩ ⟨"ErrataLand", "vain", "(III)I"⟩) ∈ zAll := zWm 1108 (by decide +kernel) rfl
theorem zv_1114 : (Jvm.Cond.methodLink "ErrataLandLaw" 145 ⟨"ErrataLand", "makes", "(IIIII)I"⟩) ∈ zAll := zWm 1114 (by decide +kernel) rfl
theorem zv_1115 : (Jvm.Cond.instanceMethod ⟨"ErrataLand", "makes", "(IIIII)I"⟩) ∈ zAll := zWm 1115 (by decide +kernel) rfl
theorem zv_1116 : (Jvm.Cond.selects "ErrataLand" ⟨"ErrataLand", "makes", "(IIIII)I"⟩ ⟨"ErrataLand", "makes", "(IIIII)I"⟩) ∈ zAll := zWm 1116 (by decide +kernel) rfl
theorem zv_1118 : (Jvm.Cond.methodLink "ErrataLandLaw" 149 ⟨"ErrataLand", "second", "(IIII)I"⟩) ∈ zAll := zWm 1118 (by decide +kernel) rfl
theorem zv_1119 : (Jvm.Cond.instanceMethod ⟨"ErrataLand", "second", "(IIII)I"⟩) ∈ zAll := zWm 1119 (by decide +kernel) rfl
theorem zv_1120 : (Jvm.Cond.selects "ErrataLand" ⟨"ErrataLand", "second", "(IIII)I"⟩ ⟨"ErrataLand", "second", "(IIII)I"⟩) ∈ zAll := zWm 1120 (by decide +kernel) rfl
theorem zv_1128 : (Jvm.Cond.methodLink "ErrataLandLaw" 153 ⟨"ErrataLand", "chance", "(IIIII)Z"⟩) ∈ zAll := zWm 1128 (by decide +kernel) rfl
theorem zv_1129 : (Jvm.Cond.instanceMethod ⟨"ErrataLand", "chance", "(IIIII)Z"⟩) ∈ zAll := zWm 1129 (by decide +kernel) rfl
theorem zv_1130 : (Jvm.Cond.selects "ErrataLand" ⟨"ErrataLand", "chance", "(IIIII)Z"⟩ ⟨"ErrataLand", "chance", "(IIIII)Z"⟩) ∈ zAll := zWm 1130 (by decide +kernel) rfl
theorem zv_1146 : (Jvm.Cond.methodLink "ErrataLandLaw" 157 ⟨"ErrataLand", "same", "(III)I"⟩) ∈ zAll := zWm 1146 (by decide +kernel) rfl
theorem zv_1147 : (Jvm.Cond.instanceMethod ⟨"ErrataLand", "same", "(III)I"⟩) ∈ zAll := zWm 1147 (by decide +kernel) rfl
theorem zv_1148 : (Jvm.Cond.selects "ErrataLand" ⟨"ErrataLand", "same", "(III)I"⟩ ⟨"ErrataLand", "same", "(III)I"⟩) ∈ zAll := zWm 1148 (by decide +kernel) rfl
theorem zv_1157 : (Jvm.Cond.methodLink "ErrataLandLaw" 161 ⟨"ErrataLand", "circles", "(III)I"⟩) ∈ zAll := zWm 1157 (by decide +kernel) rfl
theorem zv_1158 : (Jvm.Cond.instanceMethod ⟨"ErrataLand", "circles", "(III)I"⟩) ∈ zAll := zWm 1158 (by decide +kernel) rfl
theorem zv_1159 : (Jvm.Cond.selects "ErrataLand" ⟨"ErrataLand", "circles", "(III)I"⟩ ⟨"ErrataLand", "circles", "(III)I"⟩) ∈ zAll := zWm 1159 (by decide +kernel) rfl
theorem zv_1164 : (Jvm.Cond.methodLink "ErrataLandLaw" 165 ⟨"ErrataLand", "joined", "(II)I"⟩) ∈ zAll := zWm 1164 (by decide +kernel) rfl
theorem zv_1165 : (Jvm.Cond.instanceMethod ⟨"ErrataLand", "joined", "(II)I"⟩) ∈ zAll := zWm 1165 (by decide +kernel) rfl
theorem zv_1166 : (Jvm.Cond.selects "ErrataLand" ⟨"ErrataLand", "joined", "(II)I"⟩ ⟨"ErrataLand", "joined", "(II)I"⟩) ∈ zAll := zWm 1166 (by decide +kernel) rfl
theorem zv_1168 : (Jvm.Cond.methodLink "ErrataLandLaw" 169 ⟨"ErrataLand", "route", "(II)I"⟩) ∈ zAll := zWm 1168 (by decide +kernel) rfl
theorem zv_1169 : (Jvm.Cond.instanceMethod ⟨"ErrataLand", "route", "(II)I"⟩) ∈ zAll := zWm 1169 (by decide +kernel) rfl
theorem zv_1170 : (Jvm.Cond.selects "ErrataLand" ⟨"ErrataLand", "route", "(II)I"⟩ ⟨"ErrataLand", "route", "(II)I"⟩) ∈ zAll := zWm 1170 (by decide +kernel) rfl
theorem zv_1181 : (Jvm.Cond.methodLink "ErrataLandLaw" 173 ⟨"ErrataLand", "routeFirst", "(II)I"⟩) ∈ zAll := zWm 1181 (by decide +kernel) rfl
theorem zv_1182 : (Jvm.Cond.instanceMethod ⟨"ErrataLand", "routeFirst", "(II)I"⟩) ∈ zAll := zWm 1182 (by decide +kernel) rfl
theorem zv_1183 : (Jvm.Cond.selects "ErrataLand" ⟨"ErrataLand", "routeFirst", "(II)I"⟩ ⟨"ErrataLand", "routeFirst", "(II)I"⟩) ∈ zAll := zWm 1183 (by decide +kernel) rfl
theorem zv_1190 : (Jvm.Cond.methodLink "ErrataLandLaw" 177 ⟨"ErrataLand", "reach", "(I)I"⟩) ∈ zAll := zWm 1190 (by decide +kernel) rfl
theorem zv_1191 : (Jvm.Cond.instanceMethod ⟨"ErrataLand", "reach", "(I)I"⟩) ∈ zAll := zWm 1191 (by decide +kernel) rfl
theorem zv_1192 : (Jvm.Cond.selects "ErrataLand" ⟨"ErrataLand", "reach", "(I)I"⟩ ⟨"ErrataLand", "reach", "(I)I"⟩) ∈ zAll := zWm 1192 (by decide +kernel) rfl
theorem zv_1198 : (Jvm.Cond.methodLink "ErrataLandLaw" 181 ⟨"ErrataLand", "omitted", "(II)I"⟩) ∈ zAll := zWm 1198 (by decide +kernel) rfl
theorem zv_1199 : (Jvm.Cond.instanceMethod ⟨"ErrataLand", "omitted", "(II)I"⟩) ∈ zAll := zWm 1199 (by decide +kernel) rfl
theorem zv_1200 : (Jvm.Cond.selects "ErrataLand" ⟨"ErrataLand", "omitted", "(II)I"⟩ ⟨"ErrataLand", "omitted", "(II)I"⟩) ∈ zAll := zWm 1200 (by decide +kernel) rfl
theorem zv_1207 : (Jvm.Cond.methodLink "ErrataLandLaw" 185 ⟨"ErrataLand", "nextOmitted", "(I)I"⟩) ∈ zAll := zWm 1207 (by decide +kernel) rfl
theorem zv_1208 : (Jvm.Cond.instanceMethod ⟨"ErrataLand", "nextOmitted", "(I)I"⟩) ∈ zAll := zWm 1208 (by decide +kernel) rfl
theorem zv_1209 : (Jvm.Cond.selects "ErrataLand" ⟨"ErrataLand", "nextOmitted", "(I)I"⟩ ⟨"ErrataLand", "nextOmitted", "(I)I"⟩) ∈ zAll := zWm 1209 (by decide +kernel) rfl
theorem zv_1211 : (Jvm.Cond.methodLink "ErrataLandLaw" 189 ⟨"ErrataLand", "needs", "(I)I"⟩) ∈ zAll := zWm 1211 (by decide +kernel) rfl
theorem zv_1212 : (Jvm.Cond.instanceMethod ⟨"ErrataLand", "needs", "(I)I"⟩) ∈ zAll := zWm 1212 (by decide +kernel) rfl
theorem zv_1213 : (Jvm.Cond.selects "ErrataLand" ⟨"ErrataLand", "needs", "(I)I"⟩ ⟨"ErrataLand", "needs", "(I)I"⟩) ∈ zAll := zWm 1213 (by decide +kernel) rfl
theorem zv_1246 : (Jvm.Cond.methodLink "ErrataLandLaw" 193 ⟨"ErrataLand", "needsAt", "(II)I"⟩) ∈ zAll := zWm 1246 (by decide +kernel) rfl
theorem zv_1247 : (Jvm.Cond.instanceMethod ⟨"ErrataLand", "needsAt", "(II)I"⟩) ∈ zAll := zWm 1247 (by decide +kernel) rfl
theorem zv_1248 : (Jvm.Cond.selects "ErrataLand" ⟨"ErrataLand", "needsAt", "(II)I"⟩ ⟨"ErrataLand", "needsAt", "(II)I"⟩) ∈ zAll := zWm 1248 (by decide +kernel) rfl
theorem zv_1250 : (Jvm.Cond.methodLink "ErrataLandLaw" 197 ⟨"ErrataLand", "texts", "(IIII)I"⟩) ∈ zAll := zWm 1250 (by decide +kernel) rfl
theorem zv_1251 : (Jvm.Cond.instanceMethod ⟨"ErrataLand", "texts", "(IIII)I"⟩) ∈ zAll := zWm 1251 (by decide +kernel) rfl
theorem zv_1252 : (Jvm.Cond.selects "ErrataLand" ⟨"ErrataLand", "texts", "(IIII)I"⟩ ⟨"ErrataLand", "texts", "(IIII)I"⟩) ∈ zAll := zWm 1252 (by decide +kernel) rfl
theorem zv_1260 : (Jvm.Cond.methodLink "ErrataLandLaw" 201 ⟨"ErrataLand", "clash", "(II)I"⟩) ∈ zAll := zWm 1260 (by decide +kernel) rfl
theorem zv_1261 : (Jvm.Cond.instanceMethod ⟨"ErrataLand", "clash", "(II)I"⟩) ∈ zAll := zWm 1261 (by decide +kernel) rfl
theorem zv_1262 : (Jvm.Cond.selects "ErrataLand" ⟨"ErrataLand", "clash", "(II)I"⟩ ⟨"ErrataLand", "clash", "(II)I"⟩) ∈ zAll := zWm 1262 (by decide +kernel) rfl
theorem zv_1279 : (Jvm.Cond.methodLink "ErrataLandLaw" 205 ⟨"ErrataLand", "clashAt", "(III)I"⟩) ∈ zAll := zWm 1279 (by decide +kernel) rfl
theorem zv_1280 : (Jvm.Cond.instanceMethod ⟨"ErrataLand", "clashAt", "(III)I"⟩) ∈ zAll := zWm 1280 (by decide +kernel) rfl
theorem zv_1281 : (Jvm.Cond.selects "ErrataLand" ⟨"ErrataLand", "clashAt", "(III)I"⟩ ⟨"ErrataLand", "clashAt", "(III)I"⟩) ∈ zAll := zWm 1281 (by decide +kernel) rfl
theorem zv_1283 : (Jvm.Cond.methodLink "ErrataLandLaw" 209 ⟨"ErrataLand", "game", "(IIIIII)I"⟩) ∈ zAll := zWm 1283 (by decide +kernel) rfl
theorem zv_1284 : (Jvm.Cond.instanceMethod ⟨"ErrataLand", "game", "(IIIIII)I"⟩) ∈ zAll := zWm 1284 (by decide +kernel) rfl
theorem zv_1285 : (Jvm.Cond.selects "ErrataLand" ⟨"ErrataLand", "game", "(IIIIII)I"⟩ ⟨"ErrataLand", "game", "(IIIIII)I"⟩) ∈ zAll := zWm 1285 (by decide +kernel) rfl
theorem zv_1302 : (Jvm.Cond.methodLink "ErrataLandLaw" 214 ⟨"ErrataLand", "moveOf", "(IIIIII)I"⟩) ∈ zAll := zWm 1302 (by decide +kernel) rfl
theorem zv_1303 : (Jvm.Cond.instanceMethod ⟨"ErrataLand", "moveOf", "(IIIIII)I"⟩) ∈ zAll := zWm 1303 (by decide +kernel) rfl
theorem zv_1304 : (Jvm.Cond.selects "ErrataLand" ⟨"ErrataLand", "moveOf", "(IIIIII)I"⟩ ⟨"ErrataLand", "moveOf", "(IIIIII)I"⟩) ∈ zAll := zWm 1304 (by decide +kernel) rfl
theorem zv_1310 : (Jvm.Cond.methodLink "ErrataLandLaw" 218 ⟨"ErrataLand", "longIn", "(II)I"⟩) ∈ zAll := zWm 1310 (by decide +kernel) rfl
theorem zv_1311 : (Jvm.Cond.instanceMethod ⟨"ErrataLand", "longIn", "(II)I"⟩) ∈ zAll := zWm 1311 (by decide +kernel) rfl
theorem zv_1312 : (Jvm.Cond.selects "ErrataLand" ⟨"ErrataLand", "longIn", "(II)I"⟩ ⟨"ErrataLand", "longIn", "(II)I"⟩) ∈ zAll := zWm 1312 (by decide +kernel) rfl
theorem zv_1318 : (Jvm.Cond.methodLink "ErrataLandLaw" 222 ⟨"ErrataLand", "sayIn", "(III)I"⟩) ∈ zAll := zWm 1318 (by decide +kernel) rfl
theorem zv_1319 : (Jvm.Cond.instanceMethod ⟨"ErrataLand", "sayIn", "(III)I"⟩) ∈ zAll := zWm 1319 (by decide +kernel) rfl
theorem zv_1320 : (Jvm.Cond.selects "ErrataLand" ⟨"ErrataLand", "sayIn", "(III)I"⟩ ⟨"ErrataLand", "sayIn", "(III)I"⟩) ∈ zAll := zWm 1320 (by decide +kernel) rfl
theorem zv_1322 : (Jvm.Cond.methodLink "ErrataLandLaw" 226 ⟨"ErrataLand", "saysFirst", "(II)I"⟩) ∈ zAll := zWm 1322 (by decide +kernel) rfl
theorem zv_1323 : (Jvm.Cond.instanceMethod ⟨"ErrataLand", "saysFirst", "(II)I"⟩) ∈ zAll := zWm 1323 (by decide +kernel) rfl
theorem zv_1324 : (Jvm.Cond.selects "ErrataLand" ⟨"ErrataLand", "saysFirst", "(II)I"⟩ ⟨"ErrataLand", "saysFirst", "(II)I"⟩) ∈ zAll := zWm 1324 (by decide +kernel) rfl
theorem zv_1328 : (Jvm.Cond.methodLink "ErrataLandLaw" 230 ⟨"ErrataLand", "silentIn", "(I)I"⟩) ∈ zAll := zWm 1328 (by decide +kernel) rfl
theorem zv_1329 : (Jvm.Cond.instanceMethod ⟨"ErrataLand", "silentIn", "(I)I"⟩) ∈ zAll := zWm 1329 (by decide +kernel) rfl
theorem zv_1330 : (Jvm.Cond.selects "ErrataLand" ⟨"ErrataLand", "silentIn", "(I)I"⟩ ⟨"ErrataLand", "silentIn", "(I)I"⟩) ∈ zAll := zWm 1330 (by decide +kernel) rfl
theorem zv_1332 : (Jvm.Cond.methodLink "ErrataLandLaw" 234 ⟨"ErrataLand", "alikeIn", "(II)I"⟩) ∈ zAll := zWm 1332 (by decide +kernel) rfl
theorem zv_1333 : (Jvm.Cond.instanceMethod ⟨"ErrataLand", "alikeIn", "(II)I"⟩) ∈ zAll := zWm 1333 (by decide +kernel) rfl
theorem zv_1334 : (Jvm.Cond.selects "ErrataLand" ⟨"ErrataLand", "alikeIn", "(II)I"⟩ ⟨"ErrataLand", "alikeIn", "(II)I"⟩) ∈ zAll := zWm 1334 (by decide +kernel) rfl
theorem zv_1336 : (Jvm.Cond.methodLink "ErrataLandLaw" 238 ⟨"ErrataLand", "live", "(I)I"⟩) ∈ zAll := zWm 1336 (by decide +kernel) rfl
theorem zv_1337 : (Jvm.Cond.instanceMethod ⟨"ErrataLand", "live", "(I)I"⟩) ∈ zAll := zWm 1337 (by decide +kernel) rfl
theorem zv_1338 : (Jvm.Cond.selects "ErrataLand" ⟨"ErrataLand", "live", "(I)I"⟩ ⟨"ErrataLand", "live", "(I)I"⟩) ∈ zAll := zWm 1338 (by decide +kernel) rfl
theorem zv_1413 : (Jvm.Cond.methodLink "ErrataLandLaw" 242 ⟨"ErrataLand", "lived", "(I)I"⟩) ∈ zAll := zWm 1413 (by decide +kernel) rfl
theorem zv_1414 : (Jvm.Cond.instanceMethod ⟨"ErrataLand", "lived", "(I)I"⟩) ∈ zAll := zWm 1414 (by decide +kernel) rfl
theorem zv_1415 : (Jvm.Cond.selects "ErrataLand" ⟨"ErrataLand", "lived", "(I)I"⟩ ⟨"ErrataLand", "lived", "(I)I"⟩) ∈ zAll := zWm 1415 (by decide +kernel) rfl
theorem zv_1417 : (Jvm.Cond.methodLink "ErrataLandLaw" 246 ⟨"ErrataLand", "mean", "(II)Z"⟩) ∈ zAll := zWm 1417 (by decide +kernel) rfl
theorem zv_1418 : (Jvm.Cond.instanceMethod ⟨"ErrataLand", "mean", "(II)Z"⟩) ∈ zAll := zWm 1418 (by decide +kernel) rfl
theorem zv_1419 : (Jvm.Cond.selects "ErrataLand" ⟨"ErrataLand", "mean", "(II)Z"⟩ ⟨"ErrataLand", "mean", "(II)Z"⟩) ∈ zAll := zWm 1419 (by decide +kernel) rfl
theorem zv_1421 : (Jvm.Cond.methodLink "ErrataLandLaw" 251 ⟨"ErrataLand", "mark", "()I"⟩) ∈ zAll := zWm 1421 (by decide +kernel) rfl
theorem zv_1422 : (Jvm.Cond.instanceMethod ⟨"ErrataLand", "mark", "()I"⟩) ∈ zAll := zWm 1422 (by decide +kernel) rfl
theorem zv_1423 : (Jvm.Cond.selects "ErrataLand" ⟨"ErrataLand", "mark", "()I"⟩ ⟨"ErrataLand", "mark", "()I"⟩) ∈ zAll := zWm 1423 (by decide +kernel) rfl
theorem zv_1425 : (Jvm.Cond.methodLink "ErrataLandLaw" 255 ⟨"ErrataLand", "back", "()I"⟩) ∈ zAll := zWm 1425 (by decide +kernel) rfl
theorem zv_1426 : (Jvm.Cond.instanceMethod ⟨"ErrataLand", "back", "()I"⟩) ∈ zAll := zWm 1426 (by decide +kernel) rfl
theorem zv_1427 : (Jvm.Cond.selects "ErrataLand" ⟨"ErrataLand", "back", "()I"⟩ ⟨"ErrataLand", "back", "()I"⟩) ∈ zAll := zWm 1427 (by decide +kernel) rfl
theorem zv_1586 : (Jvm.Cond.methodLink "ErrataLandLaw" 17 ⟨"ErrataLandModel", "status", "()I"⟩) ∈ zAll := zWm 1586 (by decide +kernel) rfl
theorem zv_1587 : (Jvm.Cond.instanceMethod ⟨"ErrataLandModel", "status", "()I"⟩) ∈ zAll := zWm 1587 (by decide +kernel) rfl
theorem zv_1588 : (Jvm.Cond.selects "ErrataLandModel" ⟨"ErrataLandModel", "status", "()I"⟩ ⟨"ErrataLandModel", "status", "()I"⟩) ∈ zAll := zWm 1588 (by decide +kernel) rfl
theorem zv_1590 : (Jvm.Cond.methodLink "ErrataLandLaw" 22 ⟨"ErrataLandModel", "top", "()J"⟩) ∈ zAll := zWm 1590 (by decide +kernel) rfl
theorem zv_1591 : (Jvm.Cond.instanceMethod ⟨"ErrataLandModel", "top", "()J"⟩) ∈ zAll := zWm 1591 (by decide +kernel) rfl
theorem zv_1592 : (Jvm.Cond.selects "ErrataLandModel" ⟨"ErrataLandModel", "top", "()J"⟩ ⟨"ErrataLandModel", "top", "()J"⟩) ∈ zAll := zWm 1592 (by decide +kernel) rfl
theorem zv_1594 : (Jvm.Cond.methodLink "ErrataLandLaw" 26 ⟨"ErrataLandModel", "bottom", "()J"⟩) ∈ zAll := zWm 1594 (by decide +kernel) rfl
theorem zv_1595 : (Jvm.Cond.instanceMethod ⟨"ErrataLandModel", "bottom", "()J"⟩) ∈ zAll := zWm 1595 (by decide +kernel) rfl
theorem zv_1596 : (Jvm.Cond.selects "ErrataLandModel" ⟨"ErrataLandModel", "bottom", "()J"⟩ ⟨"ErrataLandModel", "bottom", "()J"⟩) ∈ zAll := zWm 1596 (by decide +kernel) rfl
theorem zv_1598 : (Jvm.Cond.methodLink "ErrataLandLaw" 31 ⟨"ErrataLandModel", "tray", "(III)Z"⟩) ∈ zAll := zWm 1598 (by decide +kernel) rfl
theorem zv_1599 : (Jvm.Cond.instanceMethod ⟨"ErrataLandModel", "tray", "(III)Z"⟩) ∈ zAll := zWm 1599 (by decide +kernel) rfl
theorem zv_1600 : (Jvm.Cond.selects "ErrataLandModel" ⟨"ErrataLandModel", "tray", "(III)Z"⟩ ⟨"ErrataLandModel", "tray", "(III)Z"⟩) ∈ zAll := zWm 1600 (by decide +kernel) rfl
theorem zv_1606 : (Jvm.Cond.methodLink "ErrataLandLaw" 38 ⟨"ErrataLandModel", "write", "(IIJ)Z"⟩) ∈ zAll := zWm 1606 (by decide +kernel) rfl
theorem zv_1607 : (Jvm.Cond.instanceMethod ⟨"ErrataLandModel", "write", "(IIJ)Z"⟩) ∈ zAll := zWm 1607 (by decide +kernel) rfl
theorem zv_1608 : (Jvm.Cond.selects "ErrataLandModel" ⟨"ErrataLandModel", "write", "(IIJ)Z"⟩ ⟨"ErrataLandModel", "write", "(IIJ)Z"⟩) ∈ zAll := zWm 1608 (by decide +kernel) rfl
theorem zv_1621 : (Jvm.Cond.methodLink "ErrataLandLaw" 43 ⟨"ErrataLandModel", "read", "(II)J"⟩) ∈ zAll := zWm 1621 (by decide +kernel) rfl
theorem zv_1622 : (Jvm.Cond.instanceMethod ⟨"ErrataLandModel", "read", "(II)J"⟩) ∈ zAll := zWm 1622 (by decide +kernel) rfl
theorem zv_1623 : (Jvm.Cond.selects "ErrataLandModel" ⟨"ErrataLandModel", "read", "(II)J"⟩ ⟨"ErrataLandModel", "read", "(II)J"⟩) ∈ zAll := zWm 1623 (by decide +kernel) rfl
theorem zv_1626 : (Jvm.Cond.methodLink "ErrataLandLaw" 48 ⟨"ErrataLandModel", "pou\x72", "(IIIII)Z"⟩) ∈ zAll := zWm 1626 (by decide +kernel) rfl
theorem zv_1627 : (Jvm.Cond.instanceMethod ⟨"ErrataLandModel", "pou\x72", "(IIIII)Z"⟩) ∈ zAll := zWm 1627 (by decide +kernel) rfl
theorem zv_1628 : (Jvm.Cond.selects "ErrataLandModel" ⟨"ErrataLandModel", "pou\x72", "(IIIII)Z"⟩ ⟨"ErrataLandModel", "pou\x72", "(IIIII)Z"⟩) ∈ zAll := zWm 1628 (by decide +kernel) rfl
theorem zv_1630 : (Jvm.Cond.methodLink "ErrataLandLaw" 53 ⟨"ErrataLandModel", "feed", "(IIIII)I"⟩) ∈ zAll := zWm 1630 (by decide +kernel) rfl
theorem zv_1631 : (Jvm.Cond.instanceMethod ⟨"ErrataLandModel", "feed", "(IIIII)I"⟩) ∈ zAll := zWm 1631 (by decide +kernel) rfl
theorem zv_1632 : (Jvm.Cond.selects "ErrataLandModel" ⟨"ErrataLandModel", "feed", "(IIIII)I"⟩ ⟨"ErrataLandModel", "feed", "(IIIII)I"⟩) ∈ zAll := zWm 1632 (by decide +kernel) rfl
theorem zv_1638 : (Jvm.Cond.methodLink "ErrataLandLaw" 66 ⟨"ErrataLandModel", "fault", "(I)I"⟩) ∈ zAll := zWm 1638 (by decide +kernel) rfl
theorem zv_1639 : (Jvm.Cond.instanceMethod ⟨"ErrataLandModel", "fault", "(I)I"⟩) ∈ zAll := zWm 1639 (by decide +kernel) rfl
theorem zv_1640 : (Jvm.Cond.selects "ErrataLandModel" ⟨"ErrataLandModel", "fault", "(I)I"⟩ ⟨"ErrataLandModel", "fault", "(I)I"⟩) ∈ zAll := zWm 1640 (by decide +kernel) rfl
theorem zv_1642 : (Jvm.Cond.methodLink "ErrataLandLaw" 58 ⟨"ErrataLandModel", "slip", "(I)I"⟩) ∈ zAll := zWm 1642 (by decide +kernel) rfl
theorem zv_1643 : (Jvm.Cond.instanceMethod ⟨"ErrataLandModel", "slip", "(I)I"⟩) ∈ zAll := zWm 1643 (by decide +kernel) rfl
theorem zv_1644 : (Jvm.Cond.selects "ErrataLandModel" ⟨"ErrataLandModel", "slip", "(I)I"⟩ ⟨"ErrataLandModel", "slip", "(I)I"⟩) ∈ zAll := zWm 1644 (by decide +kernel) rfl
theorem zv_1828 : (Jvm.Cond.methodLink "ErrataLandLaw" 62 ⟨"ErrataLandModel", "years", "(I)I"⟩) ∈ zAll := zWm 1828 (by decide +kernel) rfl
theorem zv_1829 : (Jvm.Cond.instanceMethod ⟨"ErrataLandModel", "years", "(I)I"⟩) ∈ zAll := zWm 1829 (by decide +kernel) rfl
theorem zv_1830 : (Jvm.Cond.selects "ErrataLandModel" ⟨"ErrataLandModel", "years", "(I)I"⟩ ⟨"ErrataLandModel", "years", "(I)I"⟩) ∈ zAll := zWm 1830 (by decide +kernel) rfl
theorem zv_1844 : (Jvm.Cond.methodLink "ErrataLandLaw" 70 ⟨"ErrataLandModel", "many", "(I)I"⟩) ∈ zAll := zWm 1844 (by decide +kernel) rfl
theorem zv_1845 : (Jvm.Cond.instanceMethod ⟨"ErrataLandModel", "many", "(I)I"⟩) ∈ zAll := zWm 1845 (by decide +kernel) rfl
theorem zv_1846 : (Jvm.Cond.selects "ErrataLandModel" ⟨"ErrataLandModel", "many", "(I)I"⟩ ⟨"ErrataLandModel", "many", "(I)I"⟩) ∈ zAll := zWm 1846 (by decide +kernel) rfl
theorem zv_1865 : (Jvm.Cond.methodLink "ErrataLandLaw" 75 ⟨"ErrataLandModel", "line", "(II)I"⟩) ∈ zAll := zWm 1865 (by decide +kernel) rfl
theorem zv_1866 : (Jvm.Cond.instanceMethod ⟨"ErrataLandModel", "line", "(II)I"⟩) ∈ zAll := zWm 1866 (by decide +kernel) rfl
theorem zv_1867 : (Jvm.Cond.selects "ErrataLandModel" ⟨"ErrataLandModel", "line", "(II)I"⟩ ⟨"ErrataLandModel", "line", "(II)I"⟩) ∈ zAll := zWm 1867 (by decide +kernel) rfl
theorem zv_1882 : (Jvm.Cond.methodLink "ErrataLandLaw" 79 ⟨"ErrataLandModel", "lineOf", "(I)I"⟩) ∈ zAll := zWm 1882 (by decide +kernel) rfl
theorem zv_1883 : (Jvm.Cond.instanceMethod ⟨"ErrataLandModel", "lineOf", "(I)I"⟩) ∈ zAll := zWm 1883 (by decide +kernel) rfl
theorem zv_1884 : (Jvm.Cond.selects "ErrataLandModel" ⟨"ErrataLandModel", "lineOf", "(I)I"⟩ ⟨"ErrataLandModel", "lineOf", "(I)I"⟩) ∈ zAll := zWm 1884 (by decide +kernel) rfl
theorem zv_1890 : (Jvm.Cond.methodLink "ErrataLandLaw" 84 ⟨"ErrataLandModel", "edit", "(III)I"⟩) ∈ zAll := zWm 1890 (by decide +kernel) rfl
theorem zv_1891 : (Jvm.Cond.instanceMethod ⟨"ErrataLandModel", "edit", "(III)I"⟩) ∈ zAll := zWm 1891 (by decide +kernel) rfl
theorem zv_1892 : (Jvm.Cond.selects "ErrataLandModel" ⟨"ErrataLandModel", "edit", "(III)I"⟩ ⟨"ErrataLandModel", "edit", "(III)I"⟩) ∈ zAll := zWm 1892 (by decide +kernel) rfl
theorem zv_1899 : (Jvm.Cond.methodLink "ErrataLandLaw" 88 ⟨"ErrataLandModel", "placeOf", "(I)I"⟩) ∈ zAll := zWm 1899 (by decide +kernel) rfl
theorem zv_1900 : (Jvm.Cond.instanceMethod ⟨"ErrataLandModel", "placeOf", "(I)I"⟩) ∈ zAll := zWm 1900 (by decide +kernel) rfl
theorem zv_1901 : (Jvm.Cond.selects "ErrataLandModel" ⟨"ErrataLandModel", "placeOf", "(I)I"⟩ ⟨"ErrataLandModel", "placeOf", "(I)I"⟩) ∈ zAll := zWm 1901 (by decide +kernel) rfl
theorem zv_1907 : (Jvm.Cond.methodLink "ErrataLandLaw" 92 ⟨"ErrataLandModel", "length", "(I)I"⟩) ∈ zAll := zWm 1907 (by decide +kernel) rfl
theorem zv_1908 : (Jvm.Cond.instanceMethod ⟨"ErrataLandModel", "length", "(I)I"⟩) ∈ zAll := zWm 1908 (by decide +kernel) rfl
theorem zv_1909 : (Jvm.Cond.selects "ErrataLandModel" ⟨"ErrataLandModel", "length", "(I)I"⟩ ⟨"ErrataLandModel", "length", "(I)I"⟩) ∈ zAll := zWm 1909 (by decide +kernel) rfl
theorem zv_1911 : (Jvm.Cond.methodLink "ErrataLandLaw" 96 ⟨"ErrataLandModel", "says", "(II)I"⟩) ∈ zAll := zWm 1911 (by decide +kernel) rfl
theorem zv_1912 : (Jvm.Cond.instanceMethod ⟨"ErrataLandModel", "says", "(II)I"⟩) ∈ zAll := zWm 1912 (by decide +kernel) rfl
theorem zv_1913 : (Jvm.Cond.selects "ErrataLandModel" ⟨"ErrataLandModel", "says", "(II)I"⟩ ⟨"ErrataLandModel", "says", "(II)I"⟩) ∈ zAll := zWm 1913 (by decide +kernel) rfl
theorem zv_1915 : (Jvm.Cond.methodLink "ErrataLandLaw" 100 ⟨"ErrataLandModel", "copyRow", "(II)I"⟩) ∈ zAll := zWm 1915 (by decide +kernel) rfl
theorem zv_1916 : (Jvm.Cond.instanceMethod ⟨"ErrataLandModel", "copyRow", "(II)I"⟩) ∈ zAll := zWm 1916 (by decide +kernel) rfl
theorem zv_1917 : (Jvm.Cond.selects "ErrataLandModel" ⟨"ErrataLandModel", "copyRow", "(II)I"⟩ ⟨"ErrataLandModel", "copyRow", "(II)I"⟩) ∈ zAll := zWm 1917 (by decide +kernel) rfl
theorem zv_1923 : (Jvm.Cond.methodLink "ErrataLandLaw" 104 ⟨"ErrataLandModel", "day", "(I)I"⟩) ∈ zAll := zWm 1923 (by decide +kernel) rfl
theorem zv_1924 : (Jvm.Cond.instanceMethod ⟨"ErrataLandModel", "day", "(I)I"⟩) ∈ zAll := zWm 1924 (by decide +kernel) rfl
theorem zv_1925 : (Jvm.Cond.selects "ErrataLandModel" ⟨"ErrataLandModel", "day", "(I)I"⟩ ⟨"ErrataLandModel", "day", "(I)I"⟩) ∈ zAll := zWm 1925 (by decide +kernel) rfl
theorem zv_1980 : (Jvm.Cond.methodLink "ErrataLandLaw" 108 ⟨"ErrataLandModel", "go", "(II)I"⟩) ∈ zAll := zWm 1980 (by decide +kernel) rfl
theorem zv_1981 : (Jvm.Cond.instanceMethod ⟨"ErrataLandModel", "go", "(II)I"⟩) ∈ zAll := zWm 1981 (by decide +kernel) rfl
theorem zv_1982 : (Jvm.Cond.selects "ErrataLandModel" ⟨"ErrataLandModel", "go", "(II)I"⟩ ⟨"ErrataLandModel", "go", "(II)I"⟩) ∈ zAll := zWm 1982 (by decide +kernel) rfl
theorem zv_1999 : (Jvm.Cond.methodLink "ErrataLandLaw" 113 ⟨"ErrataLandModel", "lose", "(IZ)Z"⟩) ∈ zAll := zWm 1999 (by decide +kernel) rfl
theorem zv_2000 : (Jvm.Cond.instanceMethod ⟨"ErrataLandModel", "lose", "(IZ)Z"⟩) ∈ zAll := zWm 2000 (by decide +kernel) rfl
theorem zv_2001 : (Jvm.Cond.selects "ErrataLandModel" ⟨"ErrataLandModel", "lose", "(IZ)Z"⟩ ⟨"ErrataLandModel", "lose", "(IZ)Z"⟩) ∈ zAll := zWm 2001 (by decide +kernel) rfl
theorem zv_2007 : (Jvm.Cond.methodLink "ErrataLandLaw" 117 ⟨"ErrataLandModel", "teach", "(III)I"⟩) ∈ zAll := zWm 2007 (by decide +kernel) rfl
theorem zv_2008 : (Jvm.Cond.instanceMethod ⟨"ErrataLandModel", "teach", "(III)I"⟩) ∈ zAll := zWm 2008 (by decide +kernel) rfl
theorem zv_2009 : (Jvm.Cond.selects "ErrataLandModel" ⟨"ErrataLandModel", "teach", "(III)I"⟩ ⟨"ErrataLandModel", "teach", "(III)I"⟩) ∈ zAll := zWm 2009 (by decide +kernel) rfl
theorem zv_2028 : (Jvm.Cond.methodLink "ErrataLandLaw" 122 ⟨"ErrataLandModel", "amend", "(IIIIZ)I"⟩) ∈ zAll := zWm 2028 (by decide +kernel) rfl
theorem zv_2029 : (Jvm.Cond.instanceMethod ⟨"ErrataLandModel", "amend", "(IIIIZ)I"⟩) ∈ zAll := zWm 2029 (by decide +kernel) rfl
theorem zv_2030 : (Jvm.Cond.selects "ErrataLandModel" ⟨"ErrataLandModel", "amend", "(IIIIZ)I"⟩ ⟨"ErrataLandModel", "amend", "(IIIIZ)I"⟩) ∈ zAll := zWm 2030 (by decide +kernel) rfl
theorem zv_2033 : (Jvm.Cond.methodLink "ErrataLandLaw" 126 ⟨"ErrataLandModel", "strike", "(II)I"⟩) ∈ zAll := zWm 2033 (by decide +kernel) rfl
theorem zv_2034 : (Jvm.Cond.instanceMethod ⟨"ErrataLandModel", "strike", "(II)I"⟩) ∈ zAll := zWm 2034 (by decide +kernel) rfl
theorem zv_2035 : (Jvm.Cond.selects "ErrataLandModel" ⟨"ErrataLandModel", "strike", "(II)I"⟩ ⟨"ErrataLandModel", "strike", "(II)I"⟩) ∈ zAll := zWm 2035 (by decide +kernel) rfl
theorem zv_2037 : (Jvm.Cond.methodLink "ErrataLandLaw" 130 ⟨"ErrataLandModel", "swap", "(III)Z"⟩) ∈ zAll := zWm 2037 (by decide +kernel) rfl
theorem zv_2038 : (Jvm.Cond.instanceMethod ⟨"ErrataLandModel", "swap", "(III)Z"⟩) ∈ zAll := zWm 2038 (by decide +kernel) rfl
theorem zv_2039 : (Jvm.Cond.selects "ErrataLandModel" ⟨"ErrataLandModel", "swap", "(III)Z"⟩ ⟨"ErrataLandModel", "swap", "(III)Z"⟩) ∈ zAll := zWm 2039 (by decide +kernel) rfl
theorem zv_2041 : (Jvm.Cond.methodLink "ErrataLandLaw" 135 ⟨"ErrataLandModel", "rule", "(I)Z"⟩) ∈ zAll := zWm 2041 (by decide +kernel) rfl
theorem zv_2042 : (Jvm.Cond.instanceMethod ⟨"ErrataLandModel", "rule", "(I)Z"⟩) ∈ zAll := zWm 2042 (by decide +kernel) rfl
theorem zv_2043 : (Jvm.Cond.selects "ErrataLandModel" ⟨"ErrataLandModel", "rule", "(I)Z"⟩ ⟨"ErrataLandModel", "rule", "(I)Z"⟩) ∈ zAll := zWm 2043 (by decide +kernel) rfl
theorem zv_2046 : (Jvm.Cond.methodLink "ErrataLandLaw" 140 ⟨"ErrataLandModel", "right", "(IIII)I"⟩) ∈ zAll := zWm 2046 (by decide +kernel) rfl
theorem zv_2047 : (Jvm.Cond.instanceMethod ⟨"ErrataLandModel", "right", "(IIII)I"⟩) ∈ zAll := zWm 2047 (by decide +kernel) rfl
theorem zv_2048 : (Jvm.Cond.selects "ErrataLandModel" ⟨"ErrataLandModel", "right", "(IIII)I"⟩ ⟨"ErrataLandModel", "right", "(IIII)I"⟩) ∈ zAll := zWm 2048 (by decide +kernel) rfl
theorem zv_2055 : (Jvm.Cond.methodLink "ErrataLandLaw" 144 ⟨"ErrataLandModel", "vain", "(III)I"⟩) ∈ zAll := zWm 2055 (by decide +kernel) rfl
theorem zv_2056 : (Jvm.Cond.instanceMethod ⟨"ErrataLandModel", "vain", "(III)I"⟩) ∈ zAll := zWm 2056 (by decide +kernel) rfl
theorem zv_2057 : (Jvm.Cond.selects "ErrataLandModel" ⟨"ErrataLandModel", "vain", "(III)I"⟩ ⟨"ErrataLandModel", "vain", "(III)I"⟩) ∈ zAll := zWm 2057 (by decide +kernel) rfl
theorem zv_2059 : (Jvm.Cond.methodLink "ErrataLandLaw" 148 ⟨"ErrataLandModel", "makes", "(IIIII)I"⟩) ∈ zAll := zWm 2059 (by decide +kernel) rfl
theorem zv_2060 : (Jvm.Cond.instanceMethod ⟨"ErrataLandModel", "makes", "(IIIII)I"⟩) ∈ zAll := zWm 2060 (by decide +kernel) rfl
theorem zv_2061 : (Jvm.Cond.selects "ErrataLandModel" ⟨"ErrataLandModel", "makes", "(IIIII)I"⟩ ⟨"ErrataLandModel", "makes", "(IIIII)I"⟩) ∈ zAll := zWm 2061 (by decide +kernel) rfl
theorem zv_2067 : (Jvm.Cond.methodLink "ErrataLandLaw" 152 ⟨"ErrataLandModel", "second", "(IIII)I"⟩) ∈ zAll := zWm 2067 (by decide +kernel) rfl
theorem zv_2068 : (Jvm.Cond.instanceMethod ⟨"ErrataLandModel", "second", "(IIII)I"⟩) ∈ zAll := zWm 2068 (by decide +kernel) rfl
theorem zv_2069 : (Jvm.Cond.selects "ErrataLandModel" ⟨"ErrataLandModel", "second", "(IIII)I"⟩ ⟨"ErrataLandModel", "second", "(IIII)I"⟩) ∈ zAll := zWm 2069 (by decide +kernel) rfl
theorem zv_2072 : (Jvm.Cond.methodLink "ErrataLandLaw" 156 ⟨"ErrataLandModel", "chance", "(IIIII)Z"⟩) ∈ zAll := zWm 2072 (by decide +kernel) rfl
theorem zv_2073 : (Jvm.Cond.instanceMethod ⟨"ErrataLandModel", "chance", "(IIIII)Z"⟩) ∈ zAll := zWm 2073 (by decide +kernel) rfl
theorem zv_2074 : (Jvm.Cond.selects "ErrataLandModel" ⟨"ErrataLandModel", "chance", "(IIIII)Z"⟩ ⟨"ErrataLandModel", "chance", "(IIIII)Z"⟩) ∈ zAll := zWm 2074 (by decide +kernel) rfl
theorem zv_2095 : (Jvm.Cond.methodLink "ErrataLandLaw" 160 ⟨"ErrataLandModel", "same", "(III)I"⟩) ∈ zAll := zWm 2095 (by decide +kernel) rfl
theorem zv_2096 : (Jvm.Cond.instanceMethod ⟨"ErrataLandModel", "same", "(III)I"⟩) ∈ zAll := zWm 2096 (by decide +kernel) rfl
theorem zv_2097 : (Jvm.Cond.selects "ErrataLandModel" ⟨"ErrataLandModel", "same", "(III)I"⟩ ⟨"ErrataLandModel", "same", "(III)I"⟩) ∈ zAll := zWm 2097 (by decide +kernel) rfl
theorem zv_2103 : (Jvm.Cond.methodLink "ErrataLandLaw" 164 ⟨"ErrataLandModel", "circles", "(III)I"⟩) ∈ zAll := zWm 2103 (by decide +kernel) rfl
theorem zv_2104 : (Jvm.Cond.instanceMethod ⟨"ErrataLandModel", "circles", "(III)I"⟩) ∈ zAll := zWm 2104 (by decide +kernel) rfl
theorem zv_2105 : (Jvm.Cond.selects "ErrataLandModel" ⟨"ErrataLandModel", "circles", "(III)I"⟩ ⟨"ErrataLandModel", "circles", "(III)I"⟩) ∈ zAll := zWm 2105 (by decide +kernel) rfl
theorem zv_2115 : (Jvm.Cond.methodLink "ErrataLandLaw" 168 ⟨"ErrataLandModel", "joined", "(II)I"⟩) ∈ zAll := zWm 2115 (by decide +kernel) rfl
theorem zv_2116 : (Jvm.Cond.instanceMethod ⟨"ErrataLandModel", "joined", "(II)I"⟩) ∈ zAll := zWm 2116 (by decide +kernel) rfl
theorem zv_2117 : (Jvm.Cond.selects "ErrataLandModel" ⟨"ErrataLandModel", "joined", "(II)I"⟩ ⟨"ErrataLandModel", "joined", "(II)I"⟩) ∈ zAll := zWm 2117 (by decide +kernel) rfl
theorem zv_2119 : (Jvm.Cond.methodLink "ErrataLandLaw" 172 ⟨"ErrataLandModel", "route", "(II)I"⟩) ∈ zAll := zWm 2119 (by decide +kernel) rfl
theorem zv_2120 : (Jvm.Cond.instanceMethod ⟨"ErrataLandModel", "route", "(II)I"⟩) ∈ zAll := zWm 2120 (by decide +kernel) rfl
theorem zv_2121 : (Jvm.Cond.selects "ErrataLandModel" ⟨"ErrataLandModel", "route", "(II)I"⟩ ⟨"ErrataLandModel", "route", "(II)I"⟩) ∈ zAll := zWm 2121 (by decide +kernel) rfl
theorem zv_2127 : (Jvm.Cond.methodLink "ErrataLandLaw" 176 ⟨"ErrataLandModel", "routeFirst", "(II)I"⟩) ∈ zAll := zWm 2127 (by decide +kernel) rfl
theorem zv_2128 : (Jvm.Cond.instanceMethod ⟨"ErrataLandModel", "routeFirst", "(II)I"⟩) ∈ zAll := zWm 2128 (by decide +kernel) rfl
theorem zv_2129 : (Jvm.Cond.selects "ErrataLandModel" ⟨"ErrataLandModel", "routeFirst", "(II)I"⟩ ⟨"ErrataLandModel", "routeFirst", "(II)I"⟩) ∈ zAll := zWm 2129 (by decide +kernel) rfl
theorem zv_2131 : (Jvm.Cond.methodLink "ErrataLandLaw" 180 ⟨"ErrataLandModel", "reach", "(I)I"⟩) ∈ zAll := zWm 2131 (by decide +kernel) rfl
theorem zv_2132 : (Jvm.Cond.instanceMethod ⟨"ErrataLandModel", "reach", "(I)I"⟩) ∈ zAll := zWm 2132 (by decide +kernel) rfl
theorem zv_2133 : (Jvm.Cond.selects "ErrataLandModel" ⟨"ErrataLandModel", "reach", "(I)I"⟩ ⟨"ErrataLandModel", "reach", "(I)I"⟩) ∈ zAll := zWm 2133 (by decide +kernel) rfl
theorem zv_2135 : (Jvm.Cond.methodLink "ErrataLandLaw" 184 ⟨"ErrataLandModel", "omitted", "(II)I"⟩) ∈ zAll := zWm 2135 (by decide +kernel) rfl
theorem zv_2136 : (Jvm.Cond.instanceMethod ⟨"ErrataLandModel", "omitted", "(II)I"⟩) ∈ zAll := zWm 2136 (by decide +kernel) rfl
theorem zv_2137 : (Jvm.Cond.selects "ErrataLandModel" ⟨"ErrataLandModel", "omitted", "(II)I"⟩ ⟨"ErrataLandModel", "omitted", "(II)I"⟩) ∈ zAll := zWm 2137 (by decide +kernel) rfl
theorem zv_2143 : (Jvm.Cond.methodLink "ErrataLandLaw" 188 ⟨"ErrataLandModel", "nextOmitted", "(I)I"⟩) ∈ zAll := zWm 2143 (by decide +kernel) rfl
theorem zv_2144 : (Jvm.Cond.instanceMethod ⟨"ErrataLandModel", "nextOmitted", "(I)I"⟩) ∈ zAll := zWm 2144 (by decide +kernel) rfl
theorem zv_2145 : (Jvm.Cond.selects "ErrataLandModel" ⟨"ErrataLandModel", "nextOmitted", "(I)I"⟩ ⟨"ErrataLandModel", "nextOmitted", "(I)I"⟩) ∈ zAll := zWm 2145 (by decide +kernel) rfl
theorem zv_2147 : (Jvm.Cond.methodLink "ErrataLandLaw" 192 ⟨"ErrataLandModel", "needs", "(I)I"⟩) ∈ zAll := zWm 2147 (by decide +kernel) rfl
theorem zv_2148 : (Jvm.Cond.instanceMethod ⟨"ErrataLandModel", "needs", "(I)I"⟩) ∈ zAll := zWm 2148 (by decide +kernel) rfl
theorem zv_2149 : (Jvm.Cond.selects "ErrataLandModel" ⟨"ErrataLandModel", "needs", "(I)I"⟩ ⟨"ErrataLandModel", "needs", "(I)I"⟩) ∈ zAll := zWm 2149 (by decide +kernel) rfl
theorem zv_2163 : (Jvm.Cond.methodLink "ErrataLandLaw" 196 ⟨"ErrataLandModel", "needsAt", "(II)I"⟩) ∈ zAll := zWm 2163 (by decide +kernel) rfl
theorem zv_2164 : (Jvm.Cond.instanceMethod ⟨"ErrataLandModel", "needsAt", "(II)I"⟩) ∈ zAll := zWm 2164 (by decide +kernel) rfl
theorem zv_2165 : (Jvm.Cond.selects "ErrataLandModel" ⟨"ErrataLandModel", "needsAt", "(II)I"⟩ ⟨"ErrataLandModel", "needsAt", "(II)I"⟩) ∈ zAll := zWm 2165 (by decide +kernel) rfl
theorem zv_2167 : (Jvm.Cond.methodLink "ErrataLandLaw" 200 ⟨"ErrataLandModel", "texts", "(IIII)I"⟩) ∈ zAll := zWm 2167 (by decide +kernel) rfl
theorem zv_2168 : (Jvm.Cond.instanceMethod ⟨"ErrataLandModel", "texts", "(IIII)I"⟩) ∈ zAll := zWm 2168 (by decide +kernel) rfl
theorem zv_2169 : (Jvm.Cond.selects "ErrataLandModel" ⟨"ErrataLandModel", "texts", "(IIII)I"⟩ ⟨"ErrataLandModel", "texts", "(IIII)I"⟩) ∈ zAll := zWm 2169 (by decide +kernel) rfl
theorem zv_2172 : (Jvm.Cond.methodLink "ErrataLandLaw" 204 ⟨"ErrataLandModel", "clash", "(II)I"⟩) ∈ zAll := zWm 2172 (by decide +kernel) rfl
theorem zv_2173 : (Jvm.Cond.instanceMethod ⟨"ErrataLandModel", "clash", "(II)I"⟩) ∈ zAll := zWm 2173 (by decide +kernel) rfl
theorem zv_2174 : (Jvm.Cond.selects "ErrataLandModel" ⟨"ErrataLandModel", "clash", "(II)I"⟩ ⟨"ErrataLandModel", "clash", "(II)I"⟩) ∈ zAll := zWm 2174 (by decide +kernel) rfl
theorem zv_2180 : (Jvm.Cond.methodLink "ErrataLandLaw" 208 ⟨"ErrataLandModel", "clashAt", "(III)I"⟩) ∈ zAll := zWm 2180 (by decide +kernel) rfl
theorem zv_2181 : (Jvm.Cond.instanceMethod ⟨"ErrataLandModel", "clashAt", "(III)I"⟩) ∈ zAll := zWm 2181 (by decide +kernel) rfl
theorem zv_2182 : (Jvm.Cond.selects "ErrataLandModel" ⟨"ErrataLandModel", "clashAt", "(III)I"⟩ ⟨"ErrataLandModel", "clashAt", "(III)I"⟩) ∈ zAll := zWm 2182 (by decide +kernel) rfl
theorem zv_2184 : (Jvm.Cond.methodLink "ErrataLandLaw" 213 ⟨"ErrataLandModel", "game", "(IIIIII)I"⟩) ∈ zAll := zWm 2184 (by decide +kernel) rfl
theorem zv_2185 : (Jvm.Cond.instanceMethod ⟨"ErrataLandModel", "game", "(IIIIII)I"⟩) ∈ zAll := zWm 2185 (by decide +kernel) rfl
theorem zv_2186 : (Jvm.Cond.selects "ErrataLandModel" ⟨"ErrataLandModel", "game", "(IIIIII)I"⟩ ⟨"ErrataLandModel", "game", "(IIIIII)I"⟩) ∈ zAll := zWm 2186 (by decide +kernel) rfl
theorem zv_2208 : (Jvm.Cond.methodLink "ErrataLandLaw" 217 ⟨"ErrataLandModel", "moveOf", "(IIIIII)I"⟩) ∈ zAll := zWm 2208 (by decide +kernel) rfl
theorem zv_2209 : (Jvm.Cond.instanceMethod ⟨"ErrataLandModel", "moveOf", "(IIIIII)I"⟩) ∈ zAll := zWm 2209 (by decide +kernel) rfl
theorem zv_2210 : (Jvm.Cond.selects "ErrataLandModel" ⟨"ErrataLandModel", "moveOf", "(IIIIII)I"⟩ ⟨"ErrataLandModel", "moveOf", "(IIIIII)I"⟩) ∈ zAll := zWm 2210 (by decide +kernel) rfl
theorem zv_2212 : (Jvm.Cond.methodLink "ErrataLandLaw" 221 ⟨"ErrataLandModel", "longIn", "(II)I"⟩) ∈ zAll := zWm 2212 (by decide +kernel) rfl
theorem zv_2213 : (Jvm.Cond.instanceMethod ⟨"ErrataLandModel", "longIn", "(II)I"⟩) ∈ zAll := zWm 2213 (by decide +kernel) rfl
theorem zv_2214 : (Jvm.Cond.selects "ErrataLandModel" ⟨"ErrataLandModel", "longIn", "(II)I"⟩ ⟨"ErrataLandModel", "longIn", "(II)I"⟩) ∈ zAll := zWm 2214 (by decide +kernel) rfl
theorem zv_2224 : (Jvm.Cond.methodLink "ErrataLandLaw" 225 ⟨"ErrataLandModel", "sayIn", "(III)I"⟩) ∈ zAll := zWm 2224 (by decide +kernel) rfl
theorem zv_2225 : (Jvm.Cond.instanceMethod ⟨"ErrataLandModel", "sayIn", "(III)I"⟩) ∈ zAll := zWm 2225 (by decide +kernel) rfl
theorem zv_2226 : (Jvm.Cond.selects "ErrataLandModel" ⟨"ErrataLandModel", "sayIn", "(III)I"⟩ ⟨"ErrataLandModel", "sayIn", "(III)I"⟩) ∈ zAll := zWm 2226 (by decide +kernel) rfl
theorem zv_2228 : (Jvm.Cond.methodLink "ErrataLandLaw" 229 ⟨"ErrataLandModel", "saysFirst", "(II)I"⟩) ∈ zAll := zWm 2228 (by decide +kernel) rfl
theorem zv_2229 : (Jvm.Cond.instanceMethod ⟨"ErrataLandModel", "saysFirst", "(II)I"⟩) ∈ zAll := zWm 2229 (by decide +kernel) rfl
theorem zv_2230 : (Jvm.Cond.selects "ErrataLandModel" ⟨"ErrataLandModel", "saysFirst", "(II)I"⟩ ⟨"ErrataLandModel", "saysFirst", "(II)I"⟩) ∈ zAll := zWm 2230 (by decide +kernel) rfl
theorem zv_2232 : (Jvm.Cond.methodLink "ErrataLandLaw" 233 ⟨"ErrataLandModel", "silentIn", "(I)I"⟩) ∈ zAll := zWm 2232 (by decide +kernel) rfl
theorem zv_2233 : (Jvm.Cond.instanceMethod ⟨"ErrataLandModel", "silentIn", "(I)I"⟩) ∈ zAll := zWm 2233 (by decide +kernel) rfl
theorem zv_2234 : (Jvm.Cond.selects "ErrataLandModel" ⟨"ErrataLandModel", "silentIn", "(I)I"⟩ ⟨"ErrataLandModel", "silentIn", "(I)I"⟩) ∈ zAll := zWm 2234 (by decide +kernel) rfl
theorem zv_2236 : (Jvm.Cond.methodLink "ErrataLandLaw" 237 ⟨"ErrataLandModel", "alikeIn", "(II)I"⟩) ∈ zAll := zWm 2236 (by decide +kernel) rfl
theorem zv_2237 : (Jvm.Cond.instanceMethod ⟨"ErrataLandModel", "alikeIn", "(II)I"⟩) ∈ zAll := zWm 2237 (by decide +kernel) rfl
theorem zv_2238 : (Jvm.Cond.selects "ErrataLandModel" ⟨"ErrataLandModel", "alikeIn", "(II)I"⟩ ⟨"ErrataLandModel", "alikeIn", "(II)I"⟩) ∈ zAll := zWm 2238 (by decide +kernel) rfl
theorem zv_2240 : (Jvm.Cond.methodLink "ErrataLandLaw" 241 ⟨"ErrataLandModel", "live", "(I)I"⟩) ∈ zAll := zWm 2240 (by decide +kernel) rfl
theorem zv_2241 : (Jvm.Cond.instanceMethod ⟨"ErrataLandModel", "live", "(I)I"⟩) ∈ zAll := zWm 2241 (by decide +kernel) rfl
theorem zv_2242 : (Jvm.Cond.selects "ErrataLandModel" ⟨"ErrataLandModel", "live", "(I)I"⟩ ⟨"ErrataLandModel", "live", "(I)I"⟩) ∈ zAll := zWm 2242 (by decide +kernel) rfl
theorem zv_2282 : (Jvm.Cond.methodLink "ErrataLandLaw" 245 ⟨"ErrataLandModel", "lived", "(I)I"⟩) ∈ zAll := zWm 2282 (by decide +kernel) rfl
theorem zv_2283 : (Jvm.Cond.instanceMethod ⟨"ErrataLandModel", "lived", "(I)I"⟩) ∈ zAll := zWm 2283 (by decide +kernel) rfl
theorem zv_2284 : (Jvm.Cond.selects "ErrataLandModel" ⟨"ErrataLandModel", "lived", "(I)I"⟩ ⟨"ErrataLandModel", "lived", "(I)I"⟩) ∈ zAll := zWm 2284 (by decide +kernel) rfl
theorem zv_2286 : (Jvm.Cond.methodLink "ErrataLandLaw" 250 ⟨"ErrataLandModel", "mean", "(II)Z"⟩) ∈ zAll := zWm 2286 (by decide +kernel) rfl
theorem zv_2287 : (Jvm.Cond.instanceMethod ⟨"ErrataLandModel", "mean", "(II)Z"⟩) ∈ zAll := zWm 2287 (by decide +kernel) rfl
theorem zv_2288 : (Jvm.Cond.selects "ErrataLandModel" ⟨"ErrataLandModel", "mean", "(II)Z"⟩ ⟨"ErrataLandModel", "mean", "(II)Z"⟩) ∈ zAll := zWm 2288 (by decide +kernel) rfl
theorem zv_2291 : (Jvm.Cond.methodLink "ErrataLandLaw" 254 ⟨"ErrataLandModel", "mark", "()I"⟩) ∈ zAll := zWm 2291 (by decide +kernel) rfl
theorem zv_2292 : (Jvm.Cond.instanceMethod ⟨"ErrataLandModel", "mark", "()I"⟩) ∈ zAll := zWm 2292 (by decide +kernel) rfl
theorem zv_2293 : (Jvm.Cond.selects "ErrataLandModel" ⟨"ErrataLandModel", "mark", "()I"⟩ ⟨"ErrataLandModel", "mark", "()I"⟩) ∈ zAll := zWm 2293 (by decide +kernel) rfl
theorem zv_2295 : (Jvm.Cond.methodLink "ErrataLandLaw" 258 ⟨"ErrataLandModel", "back", "()I"⟩) ∈ zAll := zWm 2295 (by decide +kernel) rfl
theorem zv_2296 : (Jvm.Cond.instanceMethod ⟨"ErrataLandModel", "back", "()I"⟩) ∈ zAll := zWm 2296 (by decide +kernel) rfl
theorem zv_2297 : (Jvm.Cond.selects "ErrataLandModel" ⟨"ErrataLandModel", "back", "()I"⟩ ⟨"ErrataLandModel", "back", "()I"⟩) ∈ zAll := zWm 2297 (by decide +kernel) rfl
theorem lwm_160 : lwM 160 13 6 0 := by
  unfold lwM
  rw [zPe_160]
  exact ⟨zWc_160, zv_504, zv_505, ⟨_, rfl, zv_506⟩, by decide +kernel, by decide +kernel⟩
theorem lwm_238 : lwM 238 17 7 0 := by
  unfold lwM
  rw [zPe_238]
  exact ⟨zWc_238, zv_1586, zv_1587, ⟨_, rfl, zv_1588⟩, by decide +kernel, by decide +kernel⟩
theorem lwm_161 : lwM 161 18 6 0 := by
  unfold lwM
  rw [zPe_161]
  exact ⟨zWc_161, zv_508, zv_509, ⟨_, rfl, zv_510⟩, by decide +kernel, by decide +kernel⟩
theorem lwm_239 : lwM 239 22 7 0 := by
  unfold lwM
  rw [zPe_239]
  exact ⟨zWc_239, zv_1590, zv_1591, ⟨_, rfl, zv_1592⟩, by decide +kernel, by decide +kernel⟩
theorem lwm_162 : lwM 162 23 6 0 := by
  unfold lwM
  rw [zPe_162]
  exact ⟨zWc_162, zv_512, zv_513, ⟨_, rfl, zv_514⟩, by decide +kernel, by decide +kernel⟩
theorem lwm_240 : lwM 240 26 7 0 := by
  unfold lwM
  rw [zPe_240]
  exact ⟨zWc_240, zv_1594, zv_1595, ⟨_, rfl, zv_1596⟩, by decide +kernel, by decide +kernel⟩
theorem lwm_166 : lwM 166 27 6 3 := by
  unfold lwM
  rw [zPe_166]
  exact ⟨zWc_166, zv_516, zv_517, ⟨_, rfl, zv_518⟩, by decide +kernel, by decide +kernel⟩
theorem lwm_246 : lwM 246 31 7 3 := by
  unfold lwM
  rw [zPe_246]
  exact ⟨zWc_246, zv_1598, zv_1599, ⟨_, rfl, zv_1600⟩, by decide +kernel, by decide +kernel⟩
theorem lwm_168 : lwM 168 34 6 3 := by
  unfold lwM
  rw [zPe_168]
  exact ⟨zWc_168, zv_539, zv_540, ⟨_, rfl, zv_541⟩, by decide +kernel, by decide +kernel⟩
theorem lwm_249 : lwM 249 38 7 3 := by
  unfold lwM
  rw [zPe_249]
  exact ⟨zWc_249, zv_1606, zv_1607, ⟨_, rfl, zv_1608⟩, by decide +kernel, by decide +kernel⟩
theorem lwm_170 : lwM 170 39 6 2 := by
  unfold lwM
  rw [zPe_170]
  exact ⟨zWc_170, zv_559, zv_560, ⟨_, rfl, zv_561⟩, by decide +kernel, by decide +kernel⟩
theorem lwm_250 : lwM 250 43 7 2 := by
  unfold lwM
  rw [zPe_250]
  exact ⟨zWc_250, zv_1621, zv_1622, ⟨_, rfl, zv_1623⟩, by decide +kernel, by decide +kernel⟩
theorem lwm_173 : lwM 173 44 6 5 := by
  unfold lwM
  rw [zPe_173]
  exact ⟨zWc_173, zv_571, zv_572, ⟨_, rfl, zv_573⟩, by decide +kernel, by decide +kernel⟩
theorem lwm_251 : lwM 251 48 7 5 := by
  unfold lwM
  rw [zPe_251]
  exact ⟨zWc_251, zv_1626, zv_1627, ⟨_, rfl, zv_1628⟩, by decide +kernel, by decide +kernel⟩
theorem lwm_174 : lwM 174 49 6 5 := by
  unfold lwM
  rw [zPe_174]
  exact ⟨zWc_174, zv_589, zv_590, ⟨_, rfl, zv_591⟩, by decide +kernel, by decide +kernel⟩
theorem lwm_283 : lwM 283 53 7 5 := by
  unfold lwM
  rw [zPe_283]
  exact ⟨zWc_283, zv_1630, zv_1631, ⟨_, rfl, zv_1632⟩, by decide +kernel, by decide +kernel⟩
theorem lwm_177 : lwM 177 54 6 1 := by
  unfold lwM
  rw [zPe_177]
  exact ⟨zWc_177, zv_601, zv_602, ⟨_, rfl, zv_603⟩, by decide +kernel, by decide +kernel⟩
theorem lwm_303 : lwM 303 58 7 1 := by
  unfold lwM
  rw [zPe_303]
  exact ⟨zWc_303, zv_1642, zv_1643, ⟨_, rfl, zv_1644⟩, by decide +kernel, by decide +kernel⟩
theorem lwm_178 : lwM 178 59 6 1 := by
  unfold lwM
  rw [zPe_178]
  exact ⟨zWc_178, zv_825, zv_826, ⟨_, rfl, zv_827⟩, by decide +kernel, by decide +kernel⟩
theorem lwm_307 : lwM 307 62 7 1 := by
  unfold lwM
  rw [zPe_307]
  exact ⟨zWc_307, zv_1828, zv_1829, ⟨_, rfl, zv_1830⟩, by decide +kernel, by decide +kernel⟩
theorem lwm_179 : lwM 179 63 6 1 := by
  unfold lwM
  rw [zPe_179]
  exact ⟨zWc_179, zv_879, zv_880, ⟨_, rfl, zv_881⟩, by decide +kernel, by decide +kernel⟩
theorem lwm_286 : lwM 286 66 7 1 := by
  unfold lwM
  rw [zPe_286]
  exact ⟨zWc_286, zv_1638, zv_1639, ⟨_, rfl, zv_1640⟩, by decide +kernel, by decide +kernel⟩
theorem lwm_180 : lwM 180 67 6 1 := by
  unfold lwM
  rw [zPe_180]
  exact ⟨zWc_180, zv_883, zv_884, ⟨_, rfl, zv_885⟩, by decide +kernel, by decide +kernel⟩
theorem lwm_315 : lwM 315 70 7 1 := by
  unfold lwM
  rw [zPe_315]
  exact ⟨zWc_315, zv_1844, zv_1845, ⟨_, rfl, zv_1846⟩, by decide +kernel, by decide +kernel⟩
theorem lwm_181 : lwM 181 71 6 2 := by
  unfold lwM
  rw [zPe_181]
  exact ⟨zWc_181, zv_902, zv_903, ⟨_, rfl, zv_904⟩, by decide +kernel, by decide +kernel⟩
theorem lwm_319 : lwM 319 75 7 2 := by
  unfold lwM
  rw [zPe_319]
  exact ⟨zWc_319, zv_1865, zv_1866, ⟨_, rfl, zv_1867⟩, by decide +kernel, by decide +kernel⟩
theorem lwm_182 : lwM 182 76 6 1 := by
  unfold lwM
  rw [zPe_182]
  exact ⟨zWc_182, zv_928, zv_929, ⟨_, rfl, zv_930⟩, by decide +kernel, by decide +kernel⟩
theorem lwm_321 : lwM 321 79 7 1 := by
  unfold lwM
  rw [zPe_321]
  exact ⟨zWc_321, zv_1882, zv_1883, ⟨_, rfl, zv_1884⟩, by decide +kernel, by decide +kernel⟩
theorem lwm_183 : lwM 183 80 6 3 := by
  unfold lwM
  rw [zPe_183]
  exact ⟨zWc_183, zv_933, zv_934, ⟨_, rfl, zv_935⟩, by decide +kernel, by decide +kernel⟩
theorem lwm_322 : lwM 322 84 7 3 := by
  unfold lwM
  rw [zPe_322]
  exact ⟨zWc_322, zv_1890, zv_1891, ⟨_, rfl, zv_1892⟩, by decide +kernel, by decide +kernel⟩
theorem lwm_184 : lwM 184 85 6 1 := by
  unfold lwM
  rw [zPe_184]
  exact ⟨zWc_184, zv_949, zv_950, ⟨_, rfl, zv_951⟩, by decide +kernel, by decide +kernel⟩
theorem lwm_323 : lwM 323 88 7 1 := by
  unfold lwM
  rw [zPe_323]
  exact ⟨zWc_323, zv_1899, zv_1900, ⟨_, rfl, zv_1901⟩, by decide +kernel, by decide +kernel⟩
theorem lwm_185 : lwM 185 89 6 1 := by
  unfold lwM
  rw [zPe_185]
  exact ⟨zWc_185, zv_958, zv_959, ⟨_, rfl, zv_960⟩, by decide +kernel, by decide +kernel⟩
theorem lwm_324 : lwM 324 92 7 1 := by
  unfold lwM
  rw [zPe_324]
  exact ⟨zWc_324, zv_1907, zv_1908, ⟨_, rfl, zv_1909⟩, by decide +kernel, by decide +kernel⟩
theorem lwm_187 : lwM 187 93 6 2 := by
  unfold lwM
  rw [zPe_187]
  exact ⟨zWc_187, zv_964, zv_965, ⟨_, rfl, zv_966⟩, by decide +kernel, by decide +kernel⟩
theorem lwm_325 : lwM 325 96 7 2 := by
  unfold lwM
  rw [zPe_325]
  exact ⟨zWc_325, zv_1911, zv_1912, ⟨_, rfl, zv_1913⟩, by decide +kernel, by decide +kernel⟩
theorem lwm_189 : lwM 189 97 6 2 := by
  unfold lwM
  rw [zPe_189]
  exact ⟨zWc_189, zv_976, zv_977, ⟨_, rfl, zv_978⟩, by decide +kernel, by decide +kernel⟩
theorem lwm_326 : lwM 326 100 7 2 := by
  unfold lwM
  rw [zPe_326]
  exact ⟨zWc_326, zv_1915, zv_1916, ⟨_, rfl, zv_1917⟩, by decide +kernel, by decide +kernel⟩
theorem lwm_190 : lwM 190 101 6 1 := by
  unfold lwM
  rw [zPe_190]
  exact ⟨zWc_190, zv_991, zv_992, ⟨_, rfl, zv_993⟩, by decide +kernel, by decide +kernel⟩
theorem lwm_346 : lwM 346 104 7 1 := by
  unfold lwM
  rw [zPe_346]
  exact ⟨zWc_346, zv_1923, zv_1924, ⟨_, rfl, zv_1925⟩, by decide +kernel, by decide +kernel⟩
theorem lwm_191 : lwM 191 105 6 2 := by
  unfold lwM
  rw [zPe_191]
  exact ⟨zWc_191, zv_1025, zv_1026, ⟨_, rfl, zv_1027⟩, by decide +kernel, by decide +kernel⟩
theorem lwm_349 : lwM 349 108 7 2 := by
  unfold lwM
  rw [zPe_349]
  exact ⟨zWc_349, zv_1980, zv_1981, ⟨_, rfl, zv_1982⟩, by decide +kernel, by decide +kernel⟩
theorem lwm_192 : lwM 192 109 6 2 := by
  unfold lwM
  rw [zPe_192]
  exact ⟨zWc_192, zv_1044, zv_1045, ⟨_, rfl, zv_1046⟩, by decide +kernel, by decide +kernel⟩
theorem lwm_351 : lwM 351 113 7 2 := by
  unfold lwM
  rw [zPe_351]
  exact ⟨zWc_351, zv_1999, zv_2000, ⟨_, rfl, zv_2001⟩, by decide +kernel, by decide +kernel⟩
theorem lwm_195 : lwM 195 114 6 3 := by
  unfold lwM
  rw [zPe_195]
  exact ⟨zWc_195, zv_1048, zv_1049, ⟨_, rfl, zv_1050⟩, by decide +kernel, by decide +kernel⟩
theorem lwm_352 : lwM 352 117 7 3 := by
  unfold lwM
  rw [zPe_352]
  exact ⟨zWc_352, zv_2007, zv_2008, ⟨_, rfl, zv_2009⟩, by decide +kernel, by decide +kernel⟩
theorem lwm_196 : lwM 196 118 6 5 := by
  unfold lwM
  rw [zPe_196]
  exact ⟨zWc_196, zv_1070, zv_1071, ⟨_, rfl, zv_1072⟩, by decide +kernel, by decide +kernel⟩
theorem lwm_353 : lwM 353 122 7 5 := by
  unfold lwM
  rw [zPe_353]
  exact ⟨zWc_353, zv_2028, zv_2029, ⟨_, rfl, zv_2030⟩, by decide +kernel, by decide +kernel⟩
theorem lwm_197 : lwM 197 123 6 2 := by
  unfold lwM
  rw [zPe_197]
  exact ⟨zWc_197, zv_1080, zv_1081, ⟨_, rfl, zv_1082⟩, by decide +kernel, by decide +kernel⟩
theorem lwm_354 : lwM 354 126 7 2 := by
  unfold lwM
  rw [zPe_354]
  exact ⟨zWc_354, zv_2033, zv_2034, ⟨_, rfl, zv_2035⟩, by decide +kernel, by decide +kernel⟩
theorem lwm_198 : lwM 198 127 6 3 := by
  unfold lwM
  rw [zPe_198]
  exact ⟨zWc_198, zv_1089, zv_1090, ⟨_, rfl, zv_1091⟩, by decide +kernel, by decide +kernel⟩
theorem lwm_355 : lwM 355 130 7 3 := by
  unfold lwM
  rw [zPe_355]
  exact ⟨zWc_355, zv_2037, zv_2038, ⟨_, rfl, zv_2039⟩, by decide +kernel, by decide +kernel⟩
theorem lwm_199 : lwM 199 131 6 1 := by
  unfold lwM
  rw [zPe_199]
  exact ⟨zWc_199, zv_1097, zv_1098, ⟨_, rfl, zv_1099⟩, by decide +kernel, by decide +kernel⟩
theorem lwm_356 : lwM 356 135 7 1 := by
  unfold lwM
  rw [zPe_356]
  exact ⟨zWc_356, zv_2041, zv_2042, ⟨_, rfl, zv_2043⟩, by decide +kernel, by decide +kernel⟩
theorem lwm_200 : lwM 200 136 6 4 := by
  unfold lwM
  rw [zPe_200]
  exact ⟨zWc_200, zv_1101, zv_1102, ⟨_, rfl, zv_1103⟩, by decide +kernel, by decide +kernel⟩
theorem lwm_357 : lwM 357 140 7 4 := by
  unfold lwM
  rw [zPe_357]
  exact ⟨zWc_357, zv_2046, zv_2047, ⟨_, rfl, zv_2048⟩, by decide +kernel, by decide +kernel⟩
theorem lwm_201 : lwM 201 141 6 3 := by
  unfold lwM
  rw [zPe_201]
  exact ⟨zWc_201, zv_1106, zv_1107, ⟨_, rfl, zv_1108⟩, by decide +kernel, by decide +kernel⟩
theorem lwm_358 : lwM 358 144 7 3 := by
  unfold lwM
  rw [zPe_358]
  exact ⟨zWc_358, zv_2055, zv_2056, ⟨_, rfl, zv_2057⟩, by decide +kernel, by decide +kernel⟩
theorem lwm_202 : lwM 202 145 6 5 := by
  unfold lwM
  rw [zPe_202]
  exact ⟨zWc_202, zv_1114, zv_1115, ⟨_, rfl, zv_1116⟩, by decide +kernel, by decide +kernel⟩
theorem lwm_359 : lwM 359 148 7 5 := by
  unfold lwM
  rw [zPe_359]
  exact ⟨zWc_359, zv_2059, zv_2060, ⟨_, rfl, zv_2061⟩, by decide +kernel, by decide +kernel⟩
theorem lwm_203 : lwM 203 149 6 4 := by
  unfold lwM
  rw [zPe_203]
  exact ⟨zWc_203, zv_1118, zv_1119, ⟨_, rfl, zv_1120⟩, by decide +kernel, by decide +kernel⟩
theorem lwm_360 : lwM 360 152 7 4 := by
  unfold lwM
  rw [zPe_360]
  exact ⟨zWc_360, zv_2067, zv_2068, ⟨_, rfl, zv_2069⟩, by decide +kernel, by decide +kernel⟩
theorem lwm_206 : lwM 206 153 6 5 := by
  unfold lwM
  rw [zPe_206]
  exact ⟨zWc_206, zv_1128, zv_1129, ⟨_, rfl, zv_1130⟩, by decide +kernel, by decide +kernel⟩
theorem lwm_362 : lwM 362 156 7 5 := by
  unfold lwM
  rw [zPe_362]
  exact ⟨zWc_362, zv_2072, zv_2073, ⟨_, rfl, zv_2074⟩, by decide +kernel, by decide +kernel⟩
theorem lwm_207 : lwM 207 157 6 3 := by
  unfold lwM
  rw [zPe_207]
  exact ⟨zWc_207, zv_1146, zv_1147, ⟨_, rfl, zv_1148⟩, by decide +kernel, by decide +kernel⟩
theorem lwm_364 : lwM 364 160 7 3 := by
  unfold lwM
  rw [zPe_364]
  exact ⟨zWc_364, zv_2095, zv_2096, ⟨_, rfl, zv_2097⟩, by decide +kernel, by decide +kernel⟩
theorem lwm_208 : lwM 208 161 6 3 := by
  unfold lwM
  rw [zPe_208]
  exact ⟨zWc_208, zv_1157, zv_1158, ⟨_, rfl, zv_1159⟩, by decide +kernel, by decide +kernel⟩
theorem lwm_367 : lwM 367 164 7 3 := by
  unfold lwM
  rw [zPe_367]
  exact ⟨zWc_367, zv_2103, zv_2104, ⟨_, rfl, zv_2105⟩, by decide +kernel, by decide +kernel⟩
theorem lwm_209 : lwM 209 165 6 2 := by
  unfold lwM
  rw [zPe_209]
  exact ⟨zWc_209, zv_1164, zv_1165, ⟨_, rfl, zv_1166⟩, by decide +kernel, by decide +kernel⟩
theorem lwm_368 : lwM 368 168 7 2 := by
  unfold lwM
  rw [zPe_368]
  exact ⟨zWc_368, zv_2115, zv_2116, ⟨_, rfl, zv_2117⟩, by decide +kernel, by decide +kernel⟩
theorem lwm_210 : lwM 210 169 6 2 := by
  unfold lwM
  rw [zPe_210]
  exact ⟨zWc_210, zv_1168, zv_1169, ⟨_, rfl, zv_1170⟩, by decide +kernel, by decide +kernel⟩
theorem lwm_370 : lwM 370 172 7 2 := by
  unfold lwM
  rw [zPe_370]
  exact ⟨zWc_370, zv_2119, zv_2120, ⟨_, rfl, zv_2121⟩, by decide +kernel, by decide +kernel⟩
theorem lwm_211 : lwM 211 173 6 2 := by
  unfold lwM
  rw [zPe_211]
  exact ⟨zWc_211, zv_1181, zv_1182, ⟨_, rfl, zv_1183⟩, by decide +kernel, by decide +kernel⟩
theorem lwm_371 : lwM 371 176 7 2 := by
  unfold lwM
  rw [zPe_371]
  exact ⟨zWc_371, zv_2127, zv_2128, ⟨_, rfl, zv_2129⟩, by decide +kernel, by decide +kernel⟩
theorem lwm_212 : lwM 212 177 6 1 := by
  unfold lwM
  rw [zPe_212]
  exact ⟨zWc_212, zv_1190, zv_1191, ⟨_, rfl, zv_1192⟩, by decide +kernel, by decide +kernel⟩
theorem lwm_372 : lwM 372 180 7 1 := by
  unfold lwM
  rw [zPe_372]
  exact ⟨zWc_372, zv_2131, zv_2132, ⟨_, rfl, zv_2133⟩, by decide +kernel, by decide +kernel⟩
theorem lwm_213 : lwM 213 181 6 2 := by
  unfold lwM
  rw [zPe_213]
  exact ⟨zWc_213, zv_1198, zv_1199, ⟨_, rfl, zv_1200⟩, by decide +kernel, by decide +kernel⟩
theorem lwm_374 : lwM 374 184 7 2 := by
  unfold lwM
  rw [zPe_374]
  exact ⟨zWc_374, zv_2135, zv_2136, ⟨_, rfl, zv_2137⟩, by decide +kernel, by decide +kernel⟩
theorem lwm_214 : lwM 214 185 6 1 := by
  unfold lwM
  rw [zPe_214]
  exact ⟨zWc_214, zv_1207, zv_1208, ⟨_, rfl, zv_1209⟩, by decide +kernel, by decide +kernel⟩
theorem lwm_375 : lwM 375 188 7 1 := by
  unfold lwM
  rw [zPe_375]
  exact ⟨zWc_375, zv_2143, zv_2144, ⟨_, rfl, zv_2145⟩, by decide +kernel, by decide +kernel⟩
theorem lwm_216 : lwM 216 189 6 1 := by
  unfold lwM
  rw [zPe_216]
  exact ⟨zWc_216, zv_1211, zv_1212, ⟨_, rfl, zv_1213⟩, by decide +kernel, by decide +kernel⟩
theorem lwm_379 : lwM 379 192 7 1 := by
  unfold lwM
  rw [zPe_379]
  exact ⟨zWc_379, zv_2147, zv_2148, ⟨_, rfl, zv_2149⟩, by decide +kernel, by decide +kernel⟩
theorem lwm_217 : lwM 217 193 6 2 := by
  unfold lwM
  rw [zPe_217]
  exact ⟨zWc_217, zv_1246, zv_1247, ⟨_, rfl, zv_1248⟩, by decide +kernel, by decide +kernel⟩
theorem lwm_380 : lwM 380 196 7 2 := by
  unfold lwM
  rw [zPe_380]
  exact ⟨zWc_380, zv_2163, zv_2164, ⟨_, rfl, zv_2165⟩, by decide +kernel, by decide +kernel⟩
theorem lwm_218 : lwM 218 197 6 4 := by
  unfold lwM
  rw [zPe_218]
  exact ⟨zWc_218, zv_1250, zv_1251, ⟨_, rfl, zv_1252⟩, by decide +kernel, by decide +kernel⟩
theorem lwm_381 : lwM 381 200 7 4 := by
  unfold lwM
  rw [zPe_381]
  exact ⟨zWc_381, zv_2167, zv_2168, ⟨_, rfl, zv_2169⟩, by decide +kernel, by decide +kernel⟩
theorem lwm_221 : lwM 221 201 6 2 := by
  unfold lwM
  rw [zPe_221]
  exact ⟨zWc_221, zv_1260, zv_1261, ⟨_, rfl, zv_1262⟩, by decide +kernel, by decide +kernel⟩
theorem lwm_383 : lwM 383 204 7 2 := by
  unfold lwM
  rw [zPe_383]
  exact ⟨zWc_383, zv_2172, zv_2173, ⟨_, rfl, zv_2174⟩, by decide +kernel, by decide +kernel⟩
theorem lwm_222 : lwM 222 205 6 3 := by
  unfold lwM
  rw [zPe_222]
  exact ⟨zWc_222, zv_1279, zv_1280, ⟨_, rfl, zv_1281⟩, by decide +kernel, by decide +kernel⟩
theorem lwm_384 : lwM 384 208 7 3 := by
  unfold lwM
  rw [zPe_384]
  exact ⟨zWc_384, zv_2180, zv_2181, ⟨_, rfl, zv_2182⟩, by decide +kernel, by decide +kernel⟩
theorem lwm_224 : lwM 224 209 6 6 := by
  unfold lwM
  rw [zPe_224]
  exact ⟨zWc_224, zv_1283, zv_1284, ⟨_, rfl, zv_1285⟩, by decide +kernel, by decide +kernel⟩
theorem lwm_390 : lwM 390 213 7 6 := by
  unfold lwM
  rw [zPe_390]
  exact ⟨zWc_390, zv_2184, zv_2185, ⟨_, rfl, zv_2186⟩, by decide +kernel, by decide +kernel⟩
theorem lwm_225 : lwM 225 214 6 6 := by
  unfold lwM
  rw [zPe_225]
  exact ⟨zWc_225, zv_1302, zv_1303, ⟨_, rfl, zv_1304⟩, by decide +kernel, by decide +kernel⟩
theorem lwm_391 : lwM 391 217 7 6 := by
  unfold lwM
  rw [zPe_391]
  exact ⟨zWc_391, zv_2208, zv_2209, ⟨_, rfl, zv_2210⟩, by decide +kernel, by decide +kernel⟩
theorem lwm_227 : lwM 227 218 6 2 := by
  unfold lwM
  rw [zPe_227]
  exact ⟨zWc_227, zv_1310, zv_1311, ⟨_, rfl, zv_1312⟩, by decide +kernel, by decide +kernel⟩
theorem lwm_394 : lwM 394 221 7 2 := by
  unfold lwM
  rw [zPe_394]
  exact ⟨zWc_394, zv_2212, zv_2213, ⟨_, rfl, zv_2214⟩, by decide +kernel, by decide +kernel⟩
theorem lwm_228 : lwM 228 222 6 3 := by
  unfold lwM
  rw [zPe_228]
  exact ⟨zWc_228, zv_1318, zv_1319, ⟨_, rfl, zv_1320⟩, by decide +kernel, by decide +kernel⟩
theorem lwm_395 : lwM 395 225 7 3 := by
  unfold lwM
  rw [zPe_395]
  exact ⟨zWc_395, zv_2224, zv_2225, ⟨_, rfl, zv_2226⟩, by decide +kernel, by decide +kernel⟩
theorem lwm_229 : lwM 229 226 6 2 := by
  unfold lwM
  rw [zPe_229]
  exact ⟨zWc_229, zv_1322, zv_1323, ⟨_, rfl, zv_1324⟩, by decide +kernel, by decide +kernel⟩
theorem lwm_396 : lwM 396 229 7 2 := by
  unfold lwM
  rw [zPe_396]
  exact ⟨zWc_396, zv_2228, zv_2229, ⟨_, rfl, zv_2230⟩, by decide +kernel, by decide +kernel⟩
theorem lwm_230 : lwM 230 230 6 1 := by
  unfold lwM
  rw [zPe_230]
  exact ⟨zWc_230, zv_1328, zv_1329, ⟨_, rfl, zv_1330⟩, by decide +kernel, by decide +kernel⟩
theorem lwm_397 : lwM 397 233 7 1 := by
  unfold lwM
  rw [zPe_397]
  exact ⟨zWc_397, zv_2232, zv_2233, ⟨_, rfl, zv_2234⟩, by decide +kernel, by decide +kernel⟩
theorem lwm_231 : lwM 231 234 6 2 := by
  unfold lwM
  rw [zPe_231]
  exact ⟨zWc_231, zv_1332, zv_1333, ⟨_, rfl, zv_1334⟩, by decide +kernel, by decide +kernel⟩
theorem lwm_398 : lwM 398 237 7 2 := by
  unfold lwM
  rw [zPe_398]
  exact ⟨zWc_398, zv_2236, zv_2237, ⟨_, rfl, zv_2238⟩, by decide +kernel, by decide +kernel⟩
theorem lwm_232 : lwM 232 238 6 1 := by
  unfold lwM
  rw [zPe_232]
  exact ⟨zWc_232, zv_1336, zv_1337, ⟨_, rfl, zv_1338⟩, by decide +kernel, by decide +kernel⟩
theorem lwm_408 : lwM 408 241 7 1 := by
  unfold lwM
  rw [zPe_408]
  exact ⟨zWc_408, zv_2240, zv_2241, ⟨_, rfl, zv_2242⟩, by decide +kernel, by decide +kernel⟩
theorem lwm_233 : lwM 233 242 6 1 := by
  unfold lwM
  rw [zPe_233]
  exact ⟨zWc_233, zv_1413, zv_1414, ⟨_, rfl, zv_1415⟩, by decide +kernel, by decide +kernel⟩
theorem lwm_409 : lwM 409 245 7 1 := by
  unfold lwM
  rw [zPe_409]
  exact ⟨zWc_409, zv_2282, zv_2283, ⟨_, rfl, zv_2284⟩, by decide +kernel, by decide +kernel⟩
theorem lwm_234 : lwM 234 246 6 2 := by
  unfold lwM
  rw [zPe_234]
  exact ⟨zWc_234, zv_1417, zv_1418, ⟨_, rfl, zv_1419⟩, by decide +kernel, by decide +kernel⟩
theorem lwm_410 : lwM 410 250 7 2 := by
  unfold lwM
  rw [zPe_410]
  exact ⟨zWc_410, zv_2286, zv_2287, ⟨_, rfl, zv_2288⟩, by decide +kernel, by decide +kernel⟩
theorem lwm_235 : lwM 235 251 6 0 := by
  unfold lwM
  rw [zPe_235]
  exact ⟨zWc_235, zv_1421, zv_1422, ⟨_, rfl, zv_1423⟩, by decide +kernel, by decide +kernel⟩
theorem lwm_411 : lwM 411 254 7 0 := by
  unfold lwM
  rw [zPe_411]
  exact ⟨zWc_411, zv_2291, zv_2292, ⟨_, rfl, zv_2293⟩, by decide +kernel, by decide +kernel⟩
theorem lwm_236 : lwM 236 255 6 0 := by
  unfold lwM
  rw [zPe_236]
  exact ⟨zWc_236, zv_1425, zv_1426, ⟨_, rfl, zv_1427⟩, by decide +kernel, by decide +kernel⟩
theorem lwm_412 : lwM 412 258 7 0 := by
  unfold lwM
  rw [zPe_412]
  exact ⟨zWc_412, zv_2295, zv_2296, ⟨_, rfl, zv_2297⟩, by decide +kernel, by decide +kernel⟩
