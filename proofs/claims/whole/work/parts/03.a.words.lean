def FU : Nat := 5000
theorem zm {w : Cond} (i : Nat) (h : lw_tbl[i]? = some w) (hg : goodWord w = true) : w ∈ zbig := List.mem_filter.mpr ⟨List.mem_of_getElem? h, hg⟩
theorem zm1 {w : Cond} (i : Nat) (h : tables_1_1[i]? = some w) (hg : goodWord w = true) : w ∈ zbig := by
  have h1 := List.mem_of_getElem? h
  have h2 : w ∈ tables_1 := (List.mem_append_left _ h1)
  exact List.mem_filter.mpr ⟨List.mem_append_right _ h2, hg⟩
theorem zm2 {w : Cond} (i : Nat) (h : tables_1_2[i]? = some w) (hg : goodWord w = true) : w ∈ zbig := by
  have h1 := List.mem_of_getElem? h
  have h2 : w ∈ tables_1 := (List.mem_append_right _ (List.mem_append_left _ h1))
  exact List.mem_filter.mpr ⟨List.mem_append_right _ h2, hg⟩
theorem zm3 {w : Cond} (i : Nat) (h : tables_1_3[i]? = some w) (hg : goodWord w = true) : w ∈ zbig := by
  have h1 := List.mem_of_getElem? h
  have h2 : w ∈ tables_1 := (List.mem_append_right _ (List.mem_append_right _ (List.mem_append_left _ h1)))
  exact List.mem_filter.mpr ⟨List.mem_append_right _ h2, hg⟩
theorem zm4 {w : Cond} (i : Nat) (h : tables_1_4[i]? = some w) (hg : goodWord w = true) : w ∈ zbig := by
  have h1 := List.mem_of_getElem? h
  have h2 : w ∈ tables_1 := (List.mem_append_right _ (List.mem_append_right _ (List.mem_append_right _ (List.mem_append_left _ h1))))
  exact List.mem_filter.mpr ⟨List.mem_append_right _ h2, hg⟩
theorem zm5 {w : Cond} (i : Nat) (h : tables_1_5[i]? = some w) (hg : goodWord w = true) : w ∈ zbig := by
  have h1 := List.mem_of_getElem? h
  have h2 : w ∈ tables_1 := (List.mem_append_right _ (List.mem_append_right _ (List.mem_append_right _ (List.mem_append_right _ (List.mem_append_left _ h1)))))
  exact List.mem_filter.mpr ⟨List.mem_append_right _ h2, hg⟩
theorem zm6 {w : Cond} (i : Nat) (h : tables_1_6[i]? = some w) (hg : goodWord w = true) : w ∈ zbig := by
  have h1 := List.mem_of_getElem? h
  have h2 : w ∈ tables_1 := (List.mem_append_right _ (List.mem_append_right _ (List.mem_append_right _ (List.mem_append_right _ (List.mem_append_right _ h1)))))
  exact List.mem_filter.mpr ⟨List.mem_append_right _ h2, hg⟩
theorem tw_0 : Cond.selects "NameNets$Tree" ⟨"NameNets$Tree", "clear", "()V"⟩ ⟨"NameNets$Tree", "clear", "()V"⟩ ∈ zbig := zm 0 (by decide +kernel) (by decide +kernel)
theorem tw_1 : Cond.selects "NameNets$Tree" ⟨"NameNets$Tree", "growFrom", "(I)V"⟩ ⟨"NameNets$Tree", "growFrom", "(I)V"⟩ ∈ zbig := zm 1 (by decide +kernel) (by decide +kernel)
theorem tw_2 : Cond.selects "NameNets$Tree" ⟨"NameNets$Tree", "place", "(I)V"⟩ ⟨"NameNets$Tree", "place", "(I)V"⟩ ∈ zbig := zm 2 (by decide +kernel) (by decide +kernel)
theorem tw_3 : Cond.selects "NameNets$Tree" ⟨"NameNets$Tree", "numberPosts", "()V"⟩ ⟨"NameNets$Tree", "numberPosts", "()V"⟩ ∈ zbig := zm 3 (by decide +kernel) (by decide +kernel)
theorem tw_4 : Cond.selects "NameNets$Tree" ⟨"NameNets$Tree", "nameLines", "()V"⟩ ⟨"NameNets$Tree", "nameLines", "()V"⟩ ∈ zbig := zm 4 (by decide +kernel) (by decide +kernel)
theorem tw_5 : Cond.selects "NameNets" ⟨"NameNets", "kindsLearned", "()I"⟩ ⟨"NameNets", "kindsLearned", "()I"⟩ ∈ zbig := zm 5 (by decide +kernel) (by decide +kernel)
theorem tw_6 : Cond.selects "NameNets$Labels" ⟨"NameNets$Labels", "nameAbove", "(LNameNets$Names;)V"⟩ ⟨"NameNets$Labels", "nameAbove", "(LNameNets$Names;)V"⟩ ∈ zbig := zm 6 (by decide +kernel) (by decide +kernel)
theorem tw_7 : Cond.selects "NameNets$Labels" ⟨"NameNets$Labels", "nameJoined", "(LNameNets$Names;)V"⟩ ⟨"NameNets$Labels", "nameJoined", "(LNameNets$Names;)V"⟩ ∈ zbig := zm 7 (by decide +kernel) (by decide +kernel)
theorem tw_8 : Cond.selects "NameNets$Labels" ⟨"NameNets$Labels", "fewestLines", "(I)I"⟩ ⟨"NameNets$Labels", "fewestLines", "(I)I"⟩ ∈ zbig := zm 8 (by decide +kernel) (by decide +kernel)
theorem tw_9 : Cond.selects "NameNets$Labels" ⟨"NameNets$Labels", "nameFar", "(LNameNets$Names;)V"⟩ ⟨"NameNets$Labels", "nameFar", "(LNameNets$Names;)V"⟩ ∈ zbig := zm 9 (by decide +kernel) (by decide +kernel)
theorem tw_10 : Cond.selects "NameNets$Labels" ⟨"NameNets$Labels", "mostLines", "(I)I"⟩ ⟨"NameNets$Labels", "mostLines", "(I)I"⟩ ∈ zbig := zm 10 (by decide +kernel) (by decide +kernel)
theorem tw_11 : Cond.selects "NameNets$Labels" ⟨"NameNets$Labels", "spread", "(LNameNets$Names;I)V"⟩ ⟨"NameNets$Labels", "spread", "(LNameNets$Names;I)V"⟩ ∈ zbig := zm 11 (by decide +kernel) (by decide +kernel)
theorem tw_12 : Cond.selects "NameNets" ⟨"NameNets", "bitsOf", "(II)I"⟩ ⟨"NameNets", "bitsOf", "(II)I"⟩ ∈ zbig := zm 12 (by decide +kernel) (by decide +kernel)
theorem tw_13 : Cond.selects "NameNets$Names" ⟨"NameNets$Names", "isAbove", "(II)Z"⟩ ⟨"NameNets$Names", "isAbove", "(II)Z"⟩ ∈ zbig := zm 13 (by decide +kernel) (by decide +kernel)
theorem tw_14 : Cond.selects "NameNets$Names" ⟨"NameNets$Names", "standsBehind", "(II)Z"⟩ ⟨"NameNets$Names", "standsBehind", "(II)Z"⟩ ∈ zbig := zm 14 (by decide +kernel) (by decide +kernel)
theorem tw_15 : Cond.selects "NameNets$Cuts" ⟨"NameNets$Cuts", "namesGiveNothing", "(I)Z"⟩ ⟨"NameNets$Cuts", "namesGiveNothing", "(I)Z"⟩ ∈ zbig := zm 15 (by decide +kernel) (by decide +kernel)
theorem tw_16 : Cond.selects "NameNets$Page" ⟨"NameNets$Page", "checkOf", "(I)I"⟩ ⟨"NameNets$Page", "checkOf", "(I)I"⟩ ∈ zbig := zm 16 (by decide +kernel) (by decide +kernel)
theorem tw_17 : Cond.selects "NameNets$Parcels" ⟨"NameNets$Parcels", "findStretch", "(LNameNets$Names;)V"⟩ ⟨"NameNets$Parcels", "findStretch", "(LNameNets$Names;)V"⟩ ∈ zbig := zm 17 (by decide +kernel) (by decide +kernel)
theorem tw_18 : Cond.selects "NameNets$Parcels" ⟨"NameNets$Parcels", "offer", "(IIII)V"⟩ ⟨"NameNets$Parcels", "offer", "(IIII)V"⟩ ∈ zbig := zm 18 (by decide +kernel) (by decide +kernel)
theorem tw_19 : Cond.selects "NameNets$Parcels" ⟨"NameNets$Parcels", "reduce", "()V"⟩ ⟨"NameNets$Parcels", "reduce", "()V"⟩ ∈ zbig := zm 19 (by decide +kernel) (by decide +kernel)
theorem tw_20 : Cond.selects "NameNets$Cuts" ⟨"NameNets$Cuts", "search", "(IIIII)I"⟩ ⟨"NameNets$Cuts", "search", "(IIIII)I"⟩ ∈ zbig := zm 20 (by decide +kernel) (by decide +kernel)
theorem tw_21 : Cond.selects "NameNets$Cuts" ⟨"NameNets$Cuts", "reach", "(II)Z"⟩ ⟨"NameNets$Cuts", "reach", "(II)Z"⟩ ∈ zbig := zm 21 (by decide +kernel) (by decide +kernel)
theorem tw_22 : Cond.selects "NameNets$Cuts" ⟨"NameNets$Cuts", "takeWay", "(II)V"⟩ ⟨"NameNets$Cuts", "takeWay", "(II)V"⟩ ∈ zbig := zm 22 (by decide +kernel) (by decide +kernel)
theorem tw_23 : Cond.selects "NameNets$SmallNets" ⟨"NameNets$SmallNets", "seat", "(IIIII)Z"⟩ ⟨"NameNets$SmallNets", "seat", "(IIIII)Z"⟩ ∈ zbig := zm 23 (by decide +kernel) (by decide +kernel)
theorem tw_24 : Cond.selects "NameNets$SmallNets" ⟨"NameNets$SmallNets", "fits", "(III)Z"⟩ ⟨"NameNets$SmallNets", "fits", "(III)Z"⟩ ∈ zbig := zm 24 (by decide +kernel) (by decide +kernel)
theorem tw_25 : Cond.selects "NameNets$SmallNets" ⟨"NameNets$SmallNets", "chooseGroups", "(II)V"⟩ ⟨"NameNets$SmallNets", "chooseGroups", "(II)V"⟩ ∈ zbig := zm 25 (by decide +kernel) (by decide +kernel)
theorem tw_26 : Cond.selects "NameNets$SmallNets" ⟨"NameNets$SmallNets", "isUniversal", "(II)Z"⟩ ⟨"NameNets$SmallNets", "isUniversal", "(II)Z"⟩ ∈ zbig := zm 26 (by decide +kernel) (by decide +kernel)
theorem tw_27 : Cond.selects "NameNets$Script" ⟨"NameNets$Script", "skipBlanks", "()V"⟩ ⟨"NameNets$Script", "skipBlanks", "()V"⟩ ∈ zbig := zm 27 (by decide +kernel) (by decide +kernel)
theorem tw_28 : Cond.selects "NameNets$Script" ⟨"NameNets$Script", "readQuestion", "()V"⟩ ⟨"NameNets$Script", "readQuestion", "()V"⟩ ∈ zbig := zm 28 (by decide +kernel) (by decide +kernel)
theorem tw_29 : Cond.selects "NameNets$Script" ⟨"NameNets$Script", "readWord", "()I"⟩ ⟨"NameNets$Script", "readWord", "()I"⟩ ∈ zbig := zm 29 (by decide +kernel) (by decide +kernel)
theorem tw_30 : Cond.selects "NameNets$Script" ⟨"NameNets$Script", "isLetter", "(I)Z"⟩ ⟨"NameNets$Script", "isLetter", "(I)Z"⟩ ∈ zbig := zm 30 (by decide +kernel) (by decide +kernel)
theorem tw_31 : Cond.selects "NameNets$Script" ⟨"NameNets$Script", "isWord", "(Ljava/lang/String;I)Z"⟩ ⟨"NameNets$Script", "isWord", "(Ljava/lang/String;I)Z"⟩ ∈ zbig := zm 31 (by decide +kernel) (by decide +kernel)
theorem tw_32 : Cond.selects "NameNets$Script" ⟨"NameNets$Script", "fail", "(II)V"⟩ ⟨"NameNets$Script", "fail", "(II)V"⟩ ∈ zbig := zm 32 (by decide +kernel) (by decide +kernel)
theorem tw_33 : Cond.selects "NameNets$Script" ⟨"NameNets$Script", "readNumbers", "(I)V"⟩ ⟨"NameNets$Script", "readNumbers", "(I)V"⟩ ∈ zbig := zm 33 (by decide +kernel) (by decide +kernel)
theorem tw_34 : Cond.selects "NameNets$Script" ⟨"NameNets$Script", "isFigure", "(I)Z"⟩ ⟨"NameNets$Script", "isFigure", "(I)Z"⟩ ∈ zbig := zm 34 (by decide +kernel) (by decide +kernel)
theorem tw_35 : Cond.selects "NameNets$Script" ⟨"NameNets$Script", "readNumber", "(I)V"⟩ ⟨"NameNets$Script", "readNumber", "(I)V"⟩ ∈ zbig := zm 35 (by decide +kernel) (by decide +kernel)
theorem tw_36 : Cond.selects "NameNets$Script" ⟨"NameNets$Script", "keep", "(II)V"⟩ ⟨"NameNets$Script", "keep", "(II)V"⟩ ∈ zbig := zm 36 (by decide +kernel) (by decide +kernel)
theorem tw_37 : Cond.selects "NameNets" ⟨"NameNets", "replyTo", "(IIII)I"⟩ ⟨"NameNets", "replyTo", "(IIII)I"⟩ ∈ zbig := zm 37 (by decide +kernel) (by decide +kernel)
theorem tw_38 : Cond.selects "NameNetsModel" ⟨"NameNetsModel", "noPost", "(I)Z"⟩ ⟨"NameNetsModel", "noPost", "(I)Z"⟩ ∈ zbig := zm 38 (by decide +kernel) (by decide +kernel)
theorem tw_39 : Cond.selects "NameNetsModel" ⟨"NameNetsModel", "lineOf", "(II)I"⟩ ⟨"NameNetsModel", "lineOf", "(II)I"⟩ ∈ zbig := zm 39 (by decide +kernel) (by decide +kernel)
theorem tw_40 : Cond.selects "NameNetsModel" ⟨"NameNetsModel", "noLine", "(I)Z"⟩ ⟨"NameNetsModel", "noLine", "(I)Z"⟩ ∈ zbig := zm 40 (by decide +kernel) (by decide +kernel)
theorem tw_41 : Cond.selects "NameNetsModel" ⟨"NameNetsModel", "findTree", "()V"⟩ ⟨"NameNetsModel", "findTree", "()V"⟩ ∈ zbig := zm 41 (by decide +kernel) (by decide +kernel)
theorem tw_42 : Cond.selects "NameNetsModel" ⟨"NameNetsModel", "grow", "(I)V"⟩ ⟨"NameNetsModel", "grow", "(I)V"⟩ ∈ zbig := zm 42 (by decide +kernel) (by decide +kernel)
theorem tw_43 : Cond.selects "NameNetsModel" ⟨"NameNetsModel", "degree", "(I)I"⟩ ⟨"NameNetsModel", "degree", "(I)I"⟩ ∈ zbig := zm 43 (by decide +kernel) (by decide +kernel)
theorem tw_44 : Cond.selects "NameNetsModel" ⟨"NameNetsModel", "findTurns", "()V"⟩ ⟨"NameNetsModel", "findTurns", "()V"⟩ ∈ zbig := zm 44 (by decide +kernel) (by decide +kernel)
theorem tw_45 : Cond.selects "NameNetsModel" ⟨"NameNetsModel", "findRanks", "()V"⟩ ⟨"NameNetsModel", "findRanks", "()V"⟩ ∈ zbig := zm 45 (by decide +kernel) (by decide +kernel)
theorem tw_46 : Cond.selects "NameNetsModel" ⟨"NameNetsModel", "isTreeLine", "(I)Z"⟩ ⟨"NameNetsModel", "isTreeLine", "(I)Z"⟩ ∈ zbig := zm 46 (by decide +kernel) (by decide +kernel)
theorem tw_47 : Cond.selects "NameNetsModel" ⟨"NameNetsModel", "lineName", "(I)I"⟩ ⟨"NameNetsModel", "lineName", "(I)I"⟩ ∈ zbig := zm 47 (by decide +kernel) (by decide +kernel)
theorem tw_48 : Cond.selects "NameNetsModel" ⟨"NameNetsModel", "wayUp", "(I)I"⟩ ⟨"NameNetsModel", "wayUp", "(I)I"⟩ ∈ zbig := zm 48 (by decide +kernel) (by decide +kernel)
theorem tw_49 : Cond.selects "NameNetsModel" ⟨"NameNetsModel", "findNames", "(I)V"⟩ ⟨"NameNetsModel", "findNames", "(I)V"⟩ ∈ zbig := zm 49 (by decide +kernel) (by decide +kernel)
theorem tw_50 : Cond.selects "NameNetsModel" ⟨"NameNetsModel", "findSpans", "()V"⟩ ⟨"NameNetsModel", "findSpans", "()V"⟩ ∈ zbig := zm 50 (by decide +kernel) (by decide +kernel)
theorem tw_51 : Cond.selects "NameNetsModel" ⟨"NameNetsModel", "goDown", "(II)I"⟩ ⟨"NameNetsModel", "goDown", "(II)I"⟩ ∈ zbig := zm 51 (by decide +kernel) (by decide +kernel)
theorem tw_52 : Cond.selects "NameNetsModel" ⟨"NameNetsModel", "findRows", "()V"⟩ ⟨"NameNetsModel", "findRows", "()V"⟩ ∈ zbig := zm 52 (by decide +kernel) (by decide +kernel)
theorem tw_53 : Cond.selects "NameNetsModel" ⟨"NameNetsModel", "put", "(II)V"⟩ ⟨"NameNetsModel", "put", "(II)V"⟩ ∈ zbig := zm 53 (by decide +kernel) (by decide +kernel)
theorem tw_54 : Cond.selects "NameNetsModel" ⟨"NameNetsModel", "findHubs", "()V"⟩ ⟨"NameNetsModel", "findHubs", "()V"⟩ ∈ zbig := zm 54 (by decide +kernel) (by decide +kernel)
theorem tw_55 : Cond.selects "NameNetsModel" ⟨"NameNetsModel", "goFrom", "(I)V"⟩ ⟨"NameNetsModel", "goFrom", "(I)V"⟩ ∈ zbig := zm 55 (by decide +kernel) (by decide +kernel)
theorem tw_56 : Cond.selects "NameNetsModel" ⟨"NameNetsModel", "farOf", "(II)I"⟩ ⟨"NameNetsModel", "farOf", "(II)I"⟩ ∈ zbig := zm 56 (by decide +kernel) (by decide +kernel)
theorem tw_57 : Cond.selects "NameNetsModel" ⟨"NameNetsModel", "bitsOf", "(II)I"⟩ ⟨"NameNetsModel", "bitsOf", "(II)I"⟩ ∈ zbig := zm 57 (by decide +kernel) (by decide +kernel)
theorem tw_58 : Cond.selects "NameNetsModel" ⟨"NameNetsModel", "sayOf", "(III)I"⟩ ⟨"NameNetsModel", "sayOf", "(III)I"⟩ ∈ zbig := zm 58 (by decide +kernel) (by decide +kernel)
theorem tw_59 : Cond.selects "NameNetsModel" ⟨"NameNetsModel", "isParted", "(III)Z"⟩ ⟨"NameNetsModel", "isParted", "(III)Z"⟩ ∈ zbig := zm 59 (by decide +kernel) (by decide +kernel)
theorem tw_60 : Cond.selects "NameNetsModel" ⟨"NameNetsModel", "staleSet", "(I)I"⟩ ⟨"NameNetsModel", "staleSet", "(I)I"⟩ ∈ zbig := zm 60 (by decide +kernel) (by decide +kernel)
theorem tw_61 : Cond.selects "NameNetsModel" ⟨"NameNetsModel", "isStale", "(II)Z"⟩ ⟨"NameNetsModel", "isStale", "(II)Z"⟩ ∈ zbig := zm 61 (by decide +kernel) (by decide +kernel)
theorem tw_62 : Cond.selects "NameNetsModel" ⟨"NameNetsModel", "isInBook", "(II)Z"⟩ ⟨"NameNetsModel", "isInBook", "(II)Z"⟩ ∈ zbig := zm 62 (by decide +kernel) (by decide +kernel)
theorem tw_63 : Cond.selects "NameNetsModel" ⟨"NameNetsModel", "bookAt", "(II)I"⟩ ⟨"NameNetsModel", "bookAt", "(II)I"⟩ ∈ zbig := zm 63 (by decide +kernel) (by decide +kernel)
theorem tw_64 : Cond.selects "NameNetsModel" ⟨"NameNetsModel", "checkOf", "(II)I"⟩ ⟨"NameNetsModel", "checkOf", "(II)I"⟩ ∈ zbig := zm 64 (by decide +kernel) (by decide +kernel)
theorem tw_65 : Cond.selects "NameNetsModel" ⟨"NameNetsModel", "isDamaged", "(II)Z"⟩ ⟨"NameNetsModel", "isDamaged", "(II)Z"⟩ ∈ zbig := zm 65 (by decide +kernel) (by decide +kernel)
theorem tw_66 : Cond.selects "NameNetsModel" ⟨"NameNetsModel", "nextOf", "(II)I"⟩ ⟨"NameNetsModel", "nextOf", "(II)I"⟩ ∈ zbig := zm 66 (by decide +kernel) (by decide +kernel)
theorem tw_67 : Cond.selects "NameNetsModel" ⟨"NameNetsModel", "goesOf", "(II)I"⟩ ⟨"NameNetsModel", "goesOf", "(II)I"⟩ ∈ zbig := zm 67 (by decide +kernel) (by decide +kernel)
theorem tw_68 : Cond.selects "NameNetsModel" ⟨"NameNetsModel", "findWays", "(I)V"⟩ ⟨"NameNetsModel", "findWays", "(I)V"⟩ ∈ zbig := zm 68 (by decide +kernel) (by decide +kernel)
theorem tw_69 : Cond.selects "NameNetsModel" ⟨"NameNetsModel", "oneMore", "(II)Z"⟩ ⟨"NameNetsModel", "oneMore", "(II)Z"⟩ ∈ zbig := zm 69 (by decide +kernel) (by decide +kernel)
theorem tw_70 : Cond.selects "NameNetsModel" ⟨"NameNetsModel", "holdsOne", "(IIII)Z"⟩ ⟨"NameNetsModel", "holdsOne", "(IIII)Z"⟩ ∈ zbig := zm 70 (by decide +kernel) (by decide +kernel)
theorem tw_71 : Cond.selects "NameNetsModel" ⟨"NameNetsModel", "isPick", "(IIIII)Z"⟩ ⟨"NameNetsModel", "isPick", "(IIIII)Z"⟩ ∈ zbig := zm 71 (by decide +kernel) (by decide +kernel)
theorem tw_72 : Cond.selects "NameNetsModel" ⟨"NameNetsModel", "isUniversal", "(III)Z"⟩ ⟨"NameNetsModel", "isUniversal", "(III)Z"⟩ ∈ zbig := zm 72 (by decide +kernel) (by decide +kernel)
theorem tw_73 : Cond.selects "NameNetsModel" ⟨"NameNetsModel", "here", "()I"⟩ ⟨"NameNetsModel", "here", "()I"⟩ ∈ zbig := zm 73 (by decide +kernel) (by decide +kernel)
theorem tw_74 : Cond.selects "NameNetsModel" ⟨"NameNetsModel", "readQuestion", "()V"⟩ ⟨"NameNetsModel", "readQuestion", "()V"⟩ ∈ zbig := zm 74 (by decide +kernel) (by decide +kernel)
theorem tw_75 : Cond.selects "NameNetsModel" ⟨"NameNetsModel", "takeQuestion", "()I"⟩ ⟨"NameNetsModel", "takeQuestion", "()I"⟩ ∈ zbig := zm 75 (by decide +kernel) (by decide +kernel)
theorem tw_76 : Cond.selects "NameNetsModel" ⟨"NameNetsModel", "isWord", "(IIIIIII)Z"⟩ ⟨"NameNetsModel", "isWord", "(IIIIIII)Z"⟩ ∈ zbig := zm 76 (by decide +kernel) (by decide +kernel)
theorem tw_77 : Cond.selects "NameNetsModel" ⟨"NameNetsModel", "want", "(ZII)Z"⟩ ⟨"NameNetsModel", "want", "(ZII)Z"⟩ ∈ zbig := zm 77 (by decide +kernel) (by decide +kernel)
theorem tw_78 : Cond.selects "NameNetsModel" ⟨"NameNetsModel", "takeNumber", "(I)V"⟩ ⟨"NameNetsModel", "takeNumber", "(I)V"⟩ ∈ zbig := zm 78 (by decide +kernel) (by decide +kernel)
theorem tw_79 : Cond.selects "NameNetsModel" ⟨"NameNetsModel", "answerOf", "(II)I"⟩ ⟨"NameNetsModel", "answerOf", "(II)I"⟩ ∈ zbig := zm 79 (by decide +kernel) (by decide +kernel)
set_option maxRecDepth 10000 in
theorem tw_80 : (Jvm.Cond.initialized "NameNetsLaw") ∈ zbig := zm1 0 rfl rfl
set_option maxRecDepth 10000 in
theorem tw_81 : (Jvm.Cond.initialized "NameNets") ∈ zbig := zm1 1 rfl rfl
set_option maxRecDepth 10000 in
theorem tw_82 : (Jvm.Cond.initialized "NameNets$Net") ∈ zbig := zm1 2 rfl rfl
set_option maxRecDepth 10000 in
theorem tw_83 : (Jvm.Cond.initialized "NameNets$Tree") ∈ zbig := zm1 3 rfl rfl
set_option maxRecDepth 10000 in
theorem tw_84 : (Jvm.Cond.initialized "NameNets$Labels") ∈ zbig := zm1 4 rfl rfl
set_option maxRecDepth 10000 in
theorem tw_85 : (Jvm.Cond.initialized "NameNets$Names") ∈ zbig := zm1 5 rfl rfl
set_option maxRecDepth 10000 in
theorem tw_86 : (Jvm.Cond.initialized "NameNets$Page") ∈ zbig := zm1 6 rfl rfl
set_option maxRecDepth 10000 in
theorem tw_87 : (Jvm.Cond.initialized "NameNets$Parcels") ∈ zbig := zm1 7 rfl rfl
set_option maxRecDepth 10000 in
theorem tw_88 : (Jvm.Cond.initialized "NameNets$Cuts") ∈ zbig := zm1 8 rfl rfl
set_option maxRecDepth 10000 in
theorem tw_89 : (Jvm.Cond.initialized "NameNets$SmallNets") ∈ zbig := zm1 9 rfl rfl
set_option maxRecDepth 10000 in
theorem tw_90 : (Jvm.Cond.initialized "NameNets$Script") ∈ zbig := zm1 10 rfl rfl
set_option maxRecDepth 10000 in
theorem tw_91 : (Jvm.Cond.initialized "NameNetsModel") ∈ zbig := zm1 11 rfl rfl
set_option maxRecDepth 10000 in
theorem tw_92 : (Jvm.Cond.initialized "java/util/Arrays") ∈ zbig := zm1 12 rfl rfl
set_option maxRecDepth 10000 in
theorem tw_93 : (Jvm.Cond.initialized "java/lang/Integer") ∈ zbig := zm1 13 rfl rfl
set_option maxRecDepth 10000 in
theorem tw_94 : (Jvm.Cond.initialized "java/lang/Math") ∈ zbig := zm1 14 rfl rfl
set_option maxRecDepth 10000 in
theorem tw_95 : (Jvm.Cond.initialized "java/lang/System") ∈ zbig := zm1 15 rfl rfl
set_option maxRecDepth 10000 in
theorem tw_96 : (Jvm.Cond.initialized "java/lang/String") ∈ zbig := zm1 16 rfl rfl
set_option maxRecDepth 10000 in
theorem tw_97 : (Jvm.Cond.initialized "java/lang/StringLatin1") ∈ zbig := zm1 17 rfl rfl
set_option maxRecDepth 10000 in
theorem tw_98 : (Jvm.Cond.initialized "jdk/internal/util/Preconditions") ∈ zbig := zm1 18 rfl rfl
set_option maxRecDepth 10000 in
theorem tw_99 : (Jvm.Cond.initialized "java/lang/StringUTF16") ∈ zbig := zm1 19 rfl rfl
set_option maxRecDepth 10000 in
theorem tw_100 : (Jvm.Cond.classLink "NameNetsLaw" (7 : Nat) "NameNets") ∈ zbig := zm1 20 rfl rfl
set_option maxRecDepth 10000 in
theorem tw_101 : (Jvm.Cond.instantiable "NameNets" (8 : Nat)) ∈ zbig := zm1 21 rfl rfl
set_option maxRecDepth 10000 in
theorem tw_102 : (Jvm.Cond.methodLink "NameNetsLaw" (9 : Nat) ({ cls := "NameNets", name := "<init>", desc := "()V" } : Jvm.MethodName)) ∈ zbig := zm1 22 rfl rfl
set_option maxRecDepth 10000 in
theorem tw_103 : (Jvm.Cond.instanceMethod ({ cls := "NameNets", name := "<init>", desc := "()V" } : Jvm.MethodName)) ∈ zbig := zm1 23 rfl rfl
set_option maxRecDepth 10000 in
theorem tw_104 : (Jvm.Cond.code ({ cls := "NameNets", name := "<init>", desc := "()V" } : Jvm.MethodName) prog_1_method_1_code (2 : Nat) (Option.none : Option Jvm.ClassFile.FieldType)) ∈ zbig := zm1 24 rfl rfl
set_option maxRecDepth 10000 in
theorem tw_105 : (Jvm.Cond.methodLink "NameNets" (1 : Nat) ({ cls := "java/lang/Object", name := "<init>", desc := "()V" } : Jvm.MethodName)) ∈ zbig := zm1 25 rfl rfl
set_option maxRecDepth 10000 in
theorem tw_106 : (Jvm.Cond.instanceMethod ({ cls := "java/lang/Object", name := "<init>", desc := "()V" } : Jvm.MethodName)) ∈ zbig := zm1 26 rfl rfl
set_option maxRecDepth 10000 in
theorem tw_107 : (Jvm.Cond.code ({ cls := "java/lang/Object", name := "<init>", desc := "()V" } : Jvm.MethodName) object_method_1_code (1 : Nat) (Option.none : Option Jvm.ClassFile.FieldType)) ∈ zbig := zm1 27 rfl rfl
set_option maxRecDepth 10000 in
theorem tw_108 : (Jvm.Cond.classLink "NameNets" (7 : Nat) "NameNets$Net") ∈ zbig := zm1 28 rfl rfl
set_option maxRecDepth 10000 in
theorem tw_109 : (Jvm.Cond.instantiable "NameNets$Net" (6 : Nat)) ∈ zbig := zm1 29 rfl rfl
set_option maxRecDepth 10000 in
theorem tw_110 : (Jvm.Cond.methodLink "NameNets" (9 : Nat) ({ cls := "NameNets$Net", name := "<init>", desc := "()V" } : Jvm.MethodName)) ∈ zbig := zm1 30 rfl rfl
set_option maxRecDepth 10000 in
theorem tw_111 : (Jvm.Cond.instanceMethod ({ cls := "NameNets$Net", name := "<init>", desc := "()V" } : Jvm.MethodName)) ∈ zbig := zm1 31 rfl rfl
set_option maxRecDepth 10000 in
theorem tw_112 : (Jvm.Cond.code ({ cls := "NameNets$Net", name := "<init>", desc := "()V" } : Jvm.MethodName) prog_5_method_1_code (1 : Nat) (Option.none : Option Jvm.ClassFile.FieldType)) ∈ zbig := zm1 32 rfl rfl
set_option maxRecDepth 10000 in
theorem tw_113 : (Jvm.Cond.methodLink "NameNets$Net" (3 : Nat) ({ cls := "java/lang/Object", name := "<init>", desc := "()V" } : Jvm.MethodName)) ∈ zbig := zm1 33 rfl rfl
set_option maxRecDepth 10000 in
theorem tw_114 : (Jvm.Cond.fieldLink "NameNets$Net" (9 : Nat) "NameNets$Net" "posts" "I") ∈ zbig := zm1 34 rfl rfl
set_option maxRecDepth 10000 in
theorem tw_115 : (Jvm.Cond.fieldLink "NameNets$Tree" (64 : Nat) "NameNets$Net" "posts" "I") ∈ zbig := zm1 35 rfl rfl
set_option maxRecDepth 10000 in
theorem tw_116 : (Jvm.Cond.fieldLink "NameNets$Labels" (56 : Nat) "NameNets$Net" "posts" "I") ∈ zbig := zm1 36 rfl rfl
set_option maxRecDepth 10000 in
theorem tw_117 : (Jvm.Cond.fieldLink "NameNets$Parcels" (56 : Nat) "NameNets$Net" "posts" "I") ∈ zbig := zm1 37 rfl rfl
set_option maxRecDepth 10000 in
theorem tw_118 : (Jvm.Cond.fieldLink "NameNets" (76 : Nat) "NameNets$Net" "posts" "I") ∈ zbig := zm1 38 rfl rfl
set_option maxRecDepth 10000 in
theorem tw_119 : (Jvm.Cond.fieldLink "NameNets$Cuts" (81 : Nat) "NameNets$Net" "posts" "I") ∈ zbig := zm1 39 rfl rfl
set_option maxRecDepth 10000 in
theorem tw_120 : (Jvm.Cond.fieldLink "NameNets$Net" (15 : Nat) "NameNets$Net" "size" "I") ∈ zbig := zm1 40 rfl rfl
set_option maxRecDepth 10000 in
theorem tw_121 : (Jvm.Cond.fieldLink "NameNets$Cuts" (51 : Nat) "NameNets$Net" "size" "I") ∈ zbig := zm1 41 rfl rfl
set_option maxRecDepth 10000 in
theorem tw_122 : (Jvm.Cond.fieldLink "NameNets" (91 : Nat) "NameNets$Net" "size" "I") ∈ zbig := zm1 42 rfl rfl
set_option maxRecDepth 10000 in
theorem tw_123 : (Jvm.Cond.fieldLink "NameNets$SmallNets" (35 : Nat) "NameNets$Net" "size" "I") ∈ zbig := zm1 43 rfl rfl
set_option maxRecDepth 10000 in
theorem tw_124 : (Jvm.Cond.fieldLink "NameNets$Tree" (100 : Nat) "NameNets$Net" "size" "I") ∈ zbig := zm1 44 rfl rfl
set_option maxRecDepth 10000 in
theorem tw_125 : (Jvm.Cond.fieldLink "NameNets$Net" (18 : Nat) "NameNets$Net" "changes" "I") ∈ zbig := zm1 45 rfl rfl
set_option maxRecDepth 10000 in
theorem tw_126 : (Jvm.Cond.fieldLink "NameNets$Tree" (56 : Nat) "NameNets$Net" "changes" "I") ∈ zbig := zm1 46 rfl rfl
set_option maxRecDepth 10000 in
theorem tw_127 : (Jvm.Cond.fieldLink "NameNets$Labels" (50 : Nat) "NameNets$Net" "changes" "I") ∈ zbig := zm1 47 rfl rfl
set_option maxRecDepth 10000 in
theorem tw_128 : (Jvm.Cond.fieldLink "NameNets$Parcels" (70 : Nat) "NameNets$Net" "changes" "I") ∈ zbig := zm1 48 rfl rfl
set_option maxRecDepth 10000 in
theorem tw_129 : (Jvm.Cond.fieldLink "NameNets$Net" (21 : Nat) "NameNets$Net" "from" "[I") ∈ zbig := zm1 49 rfl rfl
set_option maxRecDepth 10000 in
theorem tw_130 : (Jvm.Cond.fieldLink "NameNets$SmallNets" (40 : Nat) "NameNets$Net" "from" "[I") ∈ zbig := zm1 50 rfl rfl
set_option maxRecDepth 10000 in
theorem tw_131 : (Jvm.Cond.fieldLink "NameNets" (147 : Nat) "NameNets$Net" "from" "[I") ∈ zbig := zm1 51 rfl rfl
set_option maxRecDepth 10000 in
theorem tw_132 : (Jvm.Cond.fieldLink "NameNets$Tree" (103 : Nat) "NameNets$Net" "from" "[I") ∈ zbig := zm1 52 rfl rfl
set_option maxRecDepth 10000 in
theorem tw_133 : (Jvm.Cond.fieldLink "NameNets$Net" (25 : Nat) "NameNets$Net" "to" "[I") ∈ zbig := zm1 53 rfl rfl
set_option maxRecDepth 10000 in
theorem tw_134 : (Jvm.Cond.fieldLink "NameNets$SmallNets" (43 : Nat) "NameNets$Net" "to" "[I") ∈ zbig := zm1 54 rfl rfl
set_option maxRecDepth 10000 in
theorem tw_135 : (Jvm.Cond.fieldLink "NameNets" (150 : Nat) "NameNets$Net" "to" "[I") ∈ zbig := zm1 55 rfl rfl
set_option maxRecDepth 10000 in
theorem tw_136 : (Jvm.Cond.fieldLink "NameNets$Tree" (106 : Nat) "NameNets$Net" "to" "[I") ∈ zbig := zm1 56 rfl rfl
set_option maxRecDepth 10000 in
theorem tw_137 : (Jvm.Cond.fieldLink "NameNets$Net" (28 : Nat) "NameNets$Net" "near" "[I") ∈ zbig := zm1 57 rfl rfl
set_option maxRecDepth 10000 in
theorem tw_138 : (Jvm.Cond.fieldLink "NameNets$Cuts" (64 : Nat) "NameNets$Net" "near" "[I") ∈ zbig := zm1 58 rfl rfl
set_option maxRecDepth 10000 in
theorem tw_139 : (Jvm.Cond.fieldLink "NameNets$Labels" (100 : Nat) "NameNets$Net" "near" "[I") ∈ zbig := zm1 59 rfl rfl
set_option maxRecDepth 10000 in
theorem tw_153 : (Jvm.Cond.arrayClass Jvm.ClassFile.FieldType.int) ∈ zbig := zm1 73 rfl rfl
set_option maxRecDepth 10000 in
theorem tw_154 : (Jvm.Cond.classLink "NameNets" (16 : Nat) "NameNets$Tree") ∈ zbig := zm1 74 rfl rfl
set_option maxRecDepth 10000 in
theorem tw_155 : (Jvm.Cond.instantiable "NameNets$Tree" (14 : Nat)) ∈ zbig := zm1 75 rfl rfl
set_option maxRecDepth 10000 in
theorem tw_156 : (Jvm.Cond.methodLink "NameNets" (18 : Nat) ({ cls := "NameNets$Tree", name := "<init>", desc := "(LNameNets$Net;)V" } : Jvm.MethodName)) ∈ zbig := zm1 76 rfl rfl
set_option maxRecDepth 10000 in
theorem tw_157 : (Jvm.Cond.instanceMethod ({ cls := "NameNets$Tree", name := "<init>", desc := "(LNameNets$Net;)V" } : Jvm.MethodName)) ∈ zbig := zm1 77 rfl rfl
set_option maxRecDepth 10000 in
theorem tw_158 : (Jvm.Cond.code ({ cls := "NameNets$Tree", name := "<init>", desc := "(LNameNets$Net;)V" } : Jvm.MethodName) prog_10_method_1_code (2 : Nat) (Option.none : Option Jvm.ClassFile.FieldType)) ∈ zbig := zm1 78 rfl rfl
set_option maxRecDepth 10000 in
theorem tw_159 : (Jvm.Cond.methodLink "NameNets$Tree" (3 : Nat) ({ cls := "java/lang/Object", name := "<init>", desc := "()V" } : Jvm.MethodName)) ∈ zbig := zm1 79 rfl rfl
set_option maxRecDepth 10000 in
theorem tw_160 : (Jvm.Cond.fieldLink "NameNets$Tree" (52 : Nat) "NameNets$Tree" "net" "LNameNets$Net;") ∈ zbig := zm1 80 rfl rfl
set_option maxRecDepth 10000 in
theorem tw_161 : (Jvm.Cond.fieldLink "NameNets$Tree" (9 : Nat) "NameNets$Tree" "roots" "I") ∈ zbig := zm1 81 rfl rfl
set_option maxRecDepth 10000 in
theorem tw_162 : (Jvm.Cond.fieldLink "NameNets" (109 : Nat) "NameNets$Tree" "roots" "I") ∈ zbig := zm1 82 rfl rfl
set_option maxRecDepth 10000 in
theorem tw_163 : (Jvm.Cond.fieldLink "NameNets$Tree" (15 : Nat) "NameNets$Tree" "ownLines" "I") ∈ zbig := zm1 83 rfl rfl
set_option maxRecDepth 10000 in
theorem tw_164 : (Jvm.Cond.fieldLink "NameNets" (153 : Nat) "NameNets$Tree" "ownLines" "I") ∈ zbig := zm1 84 rfl rfl
set_option maxRecDepth 10000 in
theorem tw_165 : (Jvm.Cond.fieldLink "NameNets$Tree" (18 : Nat) "NameNets$Tree" "above" "[I") ∈ zbig := zm1 85 rfl rfl
set_option maxRecDepth 10000 in
theorem tw_166 : (Jvm.Cond.fieldLink "NameNets$Parcels" (53 : Nat) "NameNets$Tree" "above" "[I") ∈ zbig := zm1 86 rfl rfl
set_option maxRecDepth 10000 in
theorem tw_167 : (Jvm.Cond.fieldLink "NameNets" (127 : Nat) "NameNets$Tree" "above" "[I") ∈ zbig := zm1 87 rfl rfl
set_option maxRecDepth 10000 in
theorem tw_168 : (Jvm.Cond.fieldLink "NameNets$Tree" (22 : Nat) "NameNets$Tree" "root" "[I") ∈ zbig := zm1 88 rfl rfl
set_option maxRecDepth 10000 in
theorem tw_169 : (Jvm.Cond.fieldLink "NameNets$Cuts" (35 : Nat) "NameNets$Tree" "root" "[I") ∈ zbig := zm1 89 rfl rfl
set_option maxRecDepth 10000 in
theorem tw_170 : (Jvm.Cond.fieldLink "NameNets$Parcels" (45 : Nat) "NameNets$Tree" "root" "[I") ∈ zbig := zm1 90 rfl rfl
set_option maxRecDepth 10000 in
theorem tw_171 : (Jvm.Cond.fieldLink "NameNets" (131 : Nat) "NameNets$Tree" "root" "[I") ∈ zbig := zm1 91 rfl rfl
set_option maxRecDepth 10000 in
theorem tw_172 : (Jvm.Cond.fieldLink "NameNets$Tree" (25 : Nat) "NameNets$Tree" "path" "[I") ∈ zbig := zm1 92 rfl rfl
set_option maxRecDepth 10000 in
theorem tw_173 : (Jvm.Cond.fieldLink "NameNets$Cuts" (38 : Nat) "NameNets$Tree" "path" "[I") ∈ zbig := zm1 93 rfl rfl
set_option maxRecDepth 10000 in
theorem tw_174 : (Jvm.Cond.fieldLink "NameNets$Parcels" (61 : Nat) "NameNets$Tree" "path" "[I") ∈ zbig := zm1 94 rfl rfl
set_option maxRecDepth 10000 in
theorem tw_175 : (Jvm.Cond.fieldLink "NameNets" (159 : Nat) "NameNets$Tree" "path" "[I") ∈ zbig := zm1 95 rfl rfl
set_option maxRecDepth 10000 in
theorem tw_176 : (Jvm.Cond.fieldLink "NameNets$Tree" (28 : Nat) "NameNets$Tree" "enter" "[I") ∈ zbig := zm1 96 rfl rfl
set_option maxRecDepth 10000 in
theorem tw_177 : (Jvm.Cond.fieldLink "NameNets$Labels" (82 : Nat) "NameNets$Tree" "enter" "[I") ∈ zbig := zm1 97 rfl rfl
set_option maxRecDepth 10000 in
theorem tw_178 : (Jvm.Cond.fieldLink "NameNets$Tree" (31 : Nat) "NameNets$Tree" "leave" "[I") ∈ zbig := zm1 98 rfl rfl
set_option maxRecDepth 10000 in
theorem tw_179 : (Jvm.Cond.fieldLink "NameNets$Labels" (89 : Nat) "NameNets$Tree" "leave" "[I") ∈ zbig := zm1 99 rfl rfl
set_option maxRecDepth 10000 in
theorem tw_180 : (Jvm.Cond.fieldLink "NameNets$Tree" (34 : Nat) "NameNets$Tree" "lineNames" "[I") ∈ zbig := zm1 100 rfl rfl
set_option maxRecDepth 10000 in
theorem tw_181 : (Jvm.Cond.fieldLink "NameNets$Cuts" (57 : Nat) "NameNets$Tree" "lineNames" "[I") ∈ zbig := zm1 101 rfl rfl
set_option maxRecDepth 10000 in
theorem tw_182 : (Jvm.Cond.fieldLink "NameNets" (156 : Nat) "NameNets$Tree" "lineNames" "[I") ∈ zbig := zm1 102 rfl rfl
set_option maxRecDepth 10000 in
theorem tw_183 : (Jvm.Cond.fieldLink "NameNets$Tree" (37 : Nat) "NameNets$Tree" "order" "[I") ∈ zbig := zm1 103 rfl rfl
set_option maxRecDepth 10000 in
theorem tw_184 : (Jvm.Cond.fieldLink "NameNets$Tree" (40 : Nat) "NameNets$Tree" "placed" "I") ∈ zbig := zm1 104 rfl rfl
set_option maxRecDepth 10000 in
theorem tw_185 : (Jvm.Cond.fieldLink "NameNets$Tree" (43 : Nat) "NameNets$Tree" "inside" "I") ∈ zbig := zm1 105 rfl rfl
set_option maxRecDepth 10000 in
theorem tw_186 : (Jvm.Cond.fieldLink "NameNets$Tree" (46 : Nat) "NameNets$Tree" "weight" "[I") ∈ zbig := zm1 106 rfl rfl
set_option maxRecDepth 10000 in
theorem tw_187 : (Jvm.Cond.fieldLink "NameNets$Tree" (49 : Nat) "NameNets$Tree" "madeAt" "I") ∈ zbig := zm1 107 rfl rfl
set_option maxRecDepth 10000 in
theorem tw_217 : (Jvm.Cond.classLink "NameNets" (25 : Nat) "NameNets$Labels") ∈ zbig := zm1 137 rfl rfl
set_option maxRecDepth 10000 in
theorem tw_218 : (Jvm.Cond.instantiable "NameNets$Labels" (10 : Nat)) ∈ zbig := zm1 138 rfl rfl
set_option maxRecDepth 10000 in
theorem tw_219 : (Jvm.Cond.methodLink "NameNets" (27 : Nat) ({ cls := "NameNets$Labels", name := "<init>", desc := "(LNameNets$Net;LNameNets$Tree;)V" } : Jvm.MethodName)) ∈ zbig := zm1 139 rfl rfl
set_option maxRecDepth 10000 in
theorem tw_220 : (Jvm.Cond.instanceMethod ({ cls := "NameNets$Labels", name := "<init>", desc := "(LNameNets$Net;LNameNets$Tree;)V" } : Jvm.MethodName)) ∈ zbig := zm1 140 rfl rfl
set_option maxRecDepth 10000 in
theorem tw_221 : (Jvm.Cond.code ({ cls := "NameNets$Labels", name := "<init>", desc := "(LNameNets$Net;LNameNets$Tree;)V" } : Jvm.MethodName) prog_3_method_1_code (4 : Nat) (Option.none : Option Jvm.ClassFile.FieldType)) ∈ zbig := zm1 141 rfl rfl
set_option maxRecDepth 10000 in
theorem tw_222 : (Jvm.Cond.methodLink "NameNets$Labels" (3 : Nat) ({ cls := "java/lang/Object", name := "<init>", desc := "()V" } : Jvm.MethodName)) ∈ zbig := zm1 142 rfl rfl
set_option maxRecDepth 10000 in
theorem tw_223 : (Jvm.Cond.classLink "NameNets$Labels" (9 : Nat) "NameNets$Names") ∈ zbig := zm1 143 rfl rfl
set_option maxRecDepth 10000 in
theorem tw_225 : (Jvm.Cond.instantiable "NameNets$Names" (5 : Nat)) ∈ zbig := zm1 145 rfl rfl
set_option maxRecDepth 10000 in
theorem tw_226 : (Jvm.Cond.methodLink "NameNets$Labels" (47 : Nat) ({ cls := "NameNets$Names", name := "<init>", desc := "(I)V" } : Jvm.MethodName)) ∈ zbig := zm1 146 rfl rfl
set_option maxRecDepth 10000 in
theorem tw_227 : (Jvm.Cond.instanceMethod ({ cls := "NameNets$Names", name := "<init>", desc := "(I)V" } : Jvm.MethodName)) ∈ zbig := zm1 147 rfl rfl
set_option maxRecDepth 10000 in
theorem tw_228 : (Jvm.Cond.code ({ cls := "NameNets$Names", name := "<init>", desc := "(I)V" } : Jvm.MethodName) prog_4_method_1_code (2 : Nat) (Option.none : Option Jvm.ClassFile.FieldType)) ∈ zbig := zm1 148 rfl rfl
set_option maxRecDepth 10000 in
theorem tw_229 : (Jvm.Cond.methodLink "NameNets$Names" (3 : Nat) ({ cls := "java/lang/Object", name := "<init>", desc := "()V" } : Jvm.MethodName)) ∈ zbig := zm1 149 rfl rfl
set_option maxRecDepth 10000 in
theorem tw_230 : (Jvm.Cond.fieldLink "NameNets$Names" (19 : Nat) "NameNets$Names" "kind" "I") ∈ zbig := zm1 150 rfl rfl
set_option maxRecDepth 10000 in
theorem tw_231 : (Jvm.Cond.fieldLink "NameNets$Names" (22 : Nat) "NameNets$Names" "width" "I") ∈ zbig := zm1 151 rfl rfl
set_option maxRecDepth 10000 in
theorem tw_232 : (Jvm.Cond.fieldLink "NameNets$Names" (9 : Nat) "NameNets$Names" "posts" "I") ∈ zbig := zm1 152 rfl rfl
set_option maxRecDepth 10000 in
theorem tw_233 : (Jvm.Cond.fieldLink "NameNets$Page" (28 : Nat) "NameNets$Names" "posts" "I") ∈ zbig := zm1 153 rfl rfl
set_option maxRecDepth 10000 in
theorem tw_234 : (Jvm.Cond.fieldLink "NameNets$Names" (15 : Nat) "NameNets$Names" "sizes" "[I") ∈ zbig := zm1 154 rfl rfl
set_option maxRecDepth 10000 in
theorem tw_235 : (Jvm.Cond.fieldLink "NameNets$Page" (54 : Nat) "NameNets$Names" "sizes" "[I") ∈ zbig := zm1 155 rfl rfl
set_option maxRecDepth 10000 in
theorem tw_236 : (Jvm.Cond.fieldLink "NameNets" (299 : Nat) "NameNets$Names" "sizes" "[I") ∈ zbig := zm1 156 rfl rfl
set_option maxRecDepth 10000 in
theorem tw_237 : (Jvm.Cond.fieldLink "NameNets$Names" (25 : Nat) "NameNets$Names" "numbers" "[I") ∈ zbig := zm1 157 rfl rfl
set_option maxRecDepth 10000 in
theorem tw_249 : (Jvm.Cond.fieldLink "NameNets$Labels" (39 : Nat) "NameNets$Labels" "net" "LNameNets$Net;") ∈ zbig := zm1 169 rfl rfl
set_option maxRecDepth 10000 in
theorem tw_250 : (Jvm.Cond.fieldLink "NameNets$Labels" (43 : Nat) "NameNets$Labels" "tree" "LNameNets$Tree;") ∈ zbig := zm1 170 rfl rfl
set_option maxRecDepth 10000 in
theorem tw_251 : (Jvm.Cond.fieldLink "NameNets$Labels" (11 : Nat) "NameNets$Labels" "rows" "[LNameNets$Names;") ∈ zbig := zm1 171 rfl rfl
set_option maxRecDepth 10000 in
theorem tw_252 : (Jvm.Cond.fieldLink "NameNets$Labels" (17 : Nat) "NameNets$Labels" "madeAt" "[I") ∈ zbig := zm1 172 rfl rfl
set_option maxRecDepth 10000 in
theorem tw_253 : (Jvm.Cond.fieldLink "NameNets$Labels" (21 : Nat) "NameNets$Labels" "turns" "[I") ∈ zbig := zm1 173 rfl rfl
set_option maxRecDepth 10000 in
theorem tw_254 : (Jvm.Cond.fieldLink "NameNets$Labels" (24 : Nat) "NameNets$Labels" "taken" "[I") ∈ zbig := zm1 174 rfl rfl
set_option maxRecDepth 10000 in
theorem tw_255 : (Jvm.Cond.fieldLink "NameNets$Labels" (27 : Nat) "NameNets$Labels" "ranks" "[I") ∈ zbig := zm1 175 rfl rfl
set_option maxRecDepth 10000 in
theorem tw_256 : (Jvm.Cond.fieldLink "NameNets$Labels" (30 : Nat) "NameNets$Labels" "hubs" "[I") ∈ zbig := zm1 176 rfl rfl
set_option maxRecDepth 10000 in
theorem tw_257 : (Jvm.Cond.fieldLink "NameNets$Labels" (33 : Nat) "NameNets$Labels" "queue" "[I") ∈ zbig := zm1 177 rfl rfl
set_option maxRecDepth 10000 in
theorem tw_258 : (Jvm.Cond.fieldLink "NameNets$Labels" (36 : Nat) "NameNets$Labels" "reached" "[I") ∈ zbig := zm1 178 rfl rfl
set_option maxRecDepth 10000 in
theorem tw_280 : (Jvm.Cond.classLink "NameNets" (34 : Nat) "NameNets$Page") ∈ zbig := zm1 200 rfl rfl
set_option maxRecDepth 10000 in
theorem tw_282 : (Jvm.Cond.instantiable "NameNets$Page" (3 : Nat)) ∈ zbig := zm1 202 rfl rfl
set_option maxRecDepth 10000 in
theorem tw_283 : (Jvm.Cond.methodLink "NameNets" (40 : Nat) ({ cls := "NameNets$Page", name := "<init>", desc := "(I)V" } : Jvm.MethodName)) ∈ zbig := zm1 203 rfl rfl
set_option maxRecDepth 10000 in
theorem tw_284 : (Jvm.Cond.instanceMethod ({ cls := "NameNets$Page", name := "<init>", desc := "(I)V" } : Jvm.MethodName)) ∈ zbig := zm1 204 rfl rfl
set_option maxRecDepth 10000 in
theorem tw_285 : (Jvm.Cond.code ({ cls := "NameNets$Page", name := "<init>", desc := "(I)V" } : Jvm.MethodName) prog_6_method_1_code (2 : Nat) (Option.none : Option Jvm.ClassFile.FieldType)) ∈ zbig := zm1 205 rfl rfl
set_option maxRecDepth 10000 in
theorem tw_286 : (Jvm.Cond.methodLink "NameNets$Page" (3 : Nat) ({ cls := "java/lang/Object", name := "<init>", desc := "()V" } : Jvm.MethodName)) ∈ zbig := zm1 206 rfl rfl
set_option maxRecDepth 10000 in
theorem tw_287 : (Jvm.Cond.classLink "NameNets$Page" (19 : Nat) "NameNets$Names") ∈ zbig := zm1 207 rfl rfl
set_option maxRecDepth 10000 in
theorem tw_288 : (Jvm.Cond.methodLink "NameNets$Page" (21 : Nat) ({ cls := "NameNets$Names", name := "<init>", desc := "(I)V" } : Jvm.MethodName)) ∈ zbig := zm1 208 rfl rfl
set_option maxRecDepth 10000 in
theorem tw_289 : (Jvm.Cond.fieldLink "NameNets$Page" (9 : Nat) "NameNets$Page" "learned" "Z") ∈ zbig := zm1 209 rfl rfl
set_option maxRecDepth 10000 in
theorem tw_290 : (Jvm.Cond.fieldLink "NameNets" (219 : Nat) "NameNets$Page" "learned" "Z") ∈ zbig := zm1 210 rfl rfl
set_option maxRecDepth 10000 in
theorem tw_291 : (Jvm.Cond.fieldLink "NameNets$Page" (24 : Nat) "NameNets$Page" "names" "LNameNets$Names;") ∈ zbig := zm1 211 rfl rfl
set_option maxRecDepth 10000 in
theorem tw_292 : (Jvm.Cond.fieldLink "NameNets" (203 : Nat) "NameNets$Page" "names" "LNameNets$Names;") ∈ zbig := zm1 212 rfl rfl
set_option maxRecDepth 10000 in
theorem tw_293 : (Jvm.Cond.fieldLink "NameNets$Page" (15 : Nat) "NameNets$Page" "checks" "[I") ∈ zbig := zm1 213 rfl rfl
set_option maxRecDepth 10000 in
theorem tw_294 : (Jvm.Cond.fieldLink "NameNets" (213 : Nat) "NameNets$Page" "checks" "[I") ∈ zbig := zm1 214 rfl rfl
set_option maxRecDepth 10000 in
theorem tw_302 : (Jvm.Cond.classLink "NameNets" (43 : Nat) "NameNets$Parcels") ∈ zbig := zm1 222 rfl rfl
set_option maxRecDepth 10000 in
theorem tw_303 : (Jvm.Cond.instantiable "NameNets$Parcels" (8 : Nat)) ∈ zbig := zm1 223 rfl rfl
set_option maxRecDepth 10000 in
theorem tw_304 : (Jvm.Cond.methodLink "NameNets" (45 : Nat) ({ cls := "NameNets$Parcels", name := "<init>", desc := "(LNameNets$Net;LNameNets$Tree;LNameNets$Labels;)V" } : Jvm.MethodName)) ∈ zbig := zm1 224 rfl rfl
set_option maxRecDepth 10000 in
theorem tw_305 : (Jvm.Cond.instanceMethod ({ cls := "NameNets$Parcels", name := "<init>", desc := "(LNameNets$Net;LNameNets$Tree;LNameNets$Labels;)V" } : Jvm.MethodName)) ∈ zbig := zm1 225 rfl rfl
set_option maxRecDepth 10000 in
theorem tw_306 : (Jvm.Cond.code ({ cls := "NameNets$Parcels", name := "<init>", desc := "(LNameNets$Net;LNameNets$Tree;LNameNets$Labels;)V" } : Jvm.MethodName) prog_7_method_1_code (4 : Nat) (Option.none : Option Jvm.ClassFile.FieldType)) ∈ zbig := zm1 226 rfl rfl
set_option maxRecDepth 10000 in
theorem tw_307 : (Jvm.Cond.methodLink "NameNets$Parcels" (3 : Nat) ({ cls := "java/lang/Object", name := "<init>", desc := "()V" } : Jvm.MethodName)) ∈ zbig := zm1 227 rfl rfl
set_option maxRecDepth 10000 in
theorem tw_308 : (Jvm.Cond.fieldLink "NameNets$Parcels" (27 : Nat) "NameNets$Parcels" "net" "LNameNets$Net;") ∈ zbig := zm1 228 rfl rfl
set_option maxRecDepth 10000 in
theorem tw_309 : (Jvm.Cond.fieldLink "NameNets$Parcels" (31 : Nat) "NameNets$Parcels" "tree" "LNameNets$Tree;") ∈ zbig := zm1 229 rfl rfl
set_option maxRecDepth 10000 in
theorem tw_310 : (Jvm.Cond.fieldLink "NameNets$Parcels" (35 : Nat) "NameNets$Parcels" "labels" "LNameNets$Labels;") ∈ zbig := zm1 230 rfl rfl
set_option maxRecDepth 10000 in
theorem tw_311 : (Jvm.Cond.fieldLink "NameNets$Parcels" (9 : Nat) "NameNets$Parcels" "upper" "I") ∈ zbig := zm1 231 rfl rfl
set_option maxRecDepth 10000 in
theorem tw_312 : (Jvm.Cond.fieldLink "NameNets" (234 : Nat) "NameNets$Parcels" "upper" "I") ∈ zbig := zm1 232 rfl rfl
set_option maxRecDepth 10000 in
theorem tw_313 : (Jvm.Cond.fieldLink "NameNets$Parcels" (15 : Nat) "NameNets$Parcels" "lower" "I") ∈ zbig := zm1 233 rfl rfl
set_option maxRecDepth 10000 in
theorem tw_314 : (Jvm.Cond.fieldLink "NameNets" (237 : Nat) "NameNets$Parcels" "lower" "I") ∈ zbig := zm1 234 rfl rfl
set_option maxRecDepth 10000 in
theorem tw_315 : (Jvm.Cond.fieldLink "NameNets$Parcels" (18 : Nat) "NameNets$Parcels" "from" "I") ∈ zbig := zm1 235 rfl rfl
set_option maxRecDepth 10000 in
theorem tw_316 : (Jvm.Cond.fieldLink "NameNets" (240 : Nat) "NameNets$Parcels" "from" "I") ∈ zbig := zm1 236 rfl rfl
set_option maxRecDepth 10000 in
theorem tw_317 : (Jvm.Cond.fieldLink "NameNets$Parcels" (21 : Nat) "NameNets$Parcels" "to" "I") ∈ zbig := zm1 237 rfl rfl
set_option maxRecDepth 10000 in
theorem tw_318 : (Jvm.Cond.fieldLink "NameNets" (242 : Nat) "NameNets$Parcels" "to" "I") ∈ zbig := zm1 238 rfl rfl
set_option maxRecDepth 10000 in
theorem tw_319 : (Jvm.Cond.fieldLink "NameNets$Parcels" (24 : Nat) "NameNets$Parcels" "madeAt" "I") ∈ zbig := zm1 239 rfl rfl
set_option maxRecDepth 10000 in
theorem tw_337 : (Jvm.Cond.classLink "NameNets" (52 : Nat) "NameNets$Cuts") ∈ zbig := zm2 17 rfl rfl
set_option maxRecDepth 10000 in
theorem tw_338 : (Jvm.Cond.instantiable "NameNets$Cuts" (5 : Nat)) ∈ zbig := zm2 18 rfl rfl
set_option maxRecDepth 10000 in
theorem tw_339 : (Jvm.Cond.methodLink "NameNets" (54 : Nat) ({ cls := "NameNets$Cuts", name := "<init>", desc := "(LNameNets$Net;LNameNets$Tree;)V" } : Jvm.MethodName)) ∈ zbig := zm2 19 rfl rfl
set_option maxRecDepth 10000 in
theorem tw_340 : (Jvm.Cond.instanceMethod ({ cls := "NameNets$Cuts", name := "<init>", desc := "(LNameNets$Net;LNameNets$Tree;)V" } : Jvm.MethodName)) ∈ zbig := zm2 20 rfl rfl
set_option maxRecDepth 10000 in
theorem tw_341 : (Jvm.Cond.code ({ cls := "NameNets$Cuts", name := "<init>", desc := "(LNameNets$Net;LNameNets$Tree;)V" } : Jvm.MethodName) prog_2_method_1_code (3 : Nat) (Option.none : Option Jvm.ClassFile.FieldType)) ∈ zbig := zm2 21 rfl rfl
set_option maxRecDepth 10000 in
theorem tw_342 : (Jvm.Cond.methodLink "NameNets$Cuts" (3 : Nat) ({ cls := "java/lang/Object", name := "<init>", desc := "()V" } : Jvm.MethodName)) ∈ zbig := zm2 22 rfl rfl
set_option maxRecDepth 10000 in
theorem tw_343 : (Jvm.Cond.fieldLink "NameNets$Cuts" (21 : Nat) "NameNets$Cuts" "net" "LNameNets$Net;") ∈ zbig := zm2 23 rfl rfl
set_option maxRecDepth 10000 in
theorem tw_344 : (Jvm.Cond.fieldLink "NameNets$Cuts" (25 : Nat) "NameNets$Cuts" "tree" "LNameNets$Tree;") ∈ zbig := zm2 24 rfl rfl
set_option maxRecDepth 10000 in
theorem tw_345 : (Jvm.Cond.fieldLink "NameNets$Cuts" (9 : Nat) "NameNets$Cuts" "open" "[I") ∈ zbig := zm2 25 rfl rfl
set_option maxRecDepth 10000 in
theorem tw_346 : (Jvm.Cond.fieldLink "NameNets$Cuts" (15 : Nat) "NameNets$Cuts" "queue" "[I") ∈ zbig := zm2 26 rfl rfl
set_option maxRecDepth 10000 in
theorem tw_347 : (Jvm.Cond.fieldLink "NameNets$Cuts" (18 : Nat) "NameNets$Cuts" "cameFrom" "[I") ∈ zbig := zm2 27 rfl rfl
set_option maxRecDepth 10000 in
theorem tw_359 : (Jvm.Cond.classLink "NameNets" (59 : Nat) "NameNets$SmallNets") ∈ zbig := zm2 39 rfl rfl
set_option maxRecDepth 10000 in
theorem tw_360 : (Jvm.Cond.instantiable "NameNets$SmallNets" (3 : Nat)) ∈ zbig := zm2 40 rfl rfl
set_option maxRecDepth 10000 in
theorem tw_361 : (Jvm.Cond.methodLink "NameNets" (61 : Nat) ({ cls := "NameNets$SmallNets", name := "<init>", desc := "()V" } : Jvm.MethodName)) ∈ zbig := zm2 41 rfl rfl
set_option maxRecDepth 10000 in
theorem tw_362 : (Jvm.Cond.instanceMethod ({ cls := "NameNets$SmallNets", name := "<init>", desc := "()V" } : Jvm.MethodName)) ∈ zbig := zm2 42 rfl rfl
set_option maxRecDepth 10000 in
theorem tw_363 : (Jvm.Cond.code ({ cls := "NameNets$SmallNets", name := "<init>", desc := "()V" } : Jvm.MethodName) prog_9_method_1_code (1 : Nat) (Option.none : Option Jvm.ClassFile.FieldType)) ∈ zbig := zm2 43 rfl rfl
set_option maxRecDepth 10000 in
theorem tw_364 : (Jvm.Cond.methodLink "NameNets$SmallNets" (3 : Nat) ({ cls := "java/lang/Object", name := "<init>", desc := "()V" } : Jvm.MethodName)) ∈ zbig := zm2 44 rfl rfl
set_option maxRecDepth 10000 in
theorem tw_365 : (Jvm.Cond.fieldLink "NameNets$SmallNets" (9 : Nat) "NameNets$SmallNets" "seats" "[I") ∈ zbig := zm2 45 rfl rfl
set_option maxRecDepth 10000 in
theorem tw_366 : (Jvm.Cond.fieldLink "NameNets$SmallNets" (15 : Nat) "NameNets$SmallNets" "groups" "[I") ∈ zbig := zm2 46 rfl rfl
set_option maxRecDepth 10000 in
theorem tw_367 : (Jvm.Cond.fieldLink "NameNets$SmallNets" (18 : Nat) "NameNets$SmallNets" "chosen" "I") ∈ zbig := zm2 47 rfl rfl
set_option maxRecDepth 10000 in
theorem tw_375 : (Jvm.Cond.classLink "NameNets" (66 : Nat) "NameNets$Script") ∈ zbig := zm2 55 rfl rfl
set_option maxRecDepth 10000 in
theorem tw_376 : (Jvm.Cond.instantiable "NameNets$Script" (13 : Nat)) ∈ zbig := zm2 56 rfl rfl
set_option maxRecDepth 10000 in
theorem tw_377 : (Jvm.Cond.methodLink "NameNets" (68 : Nat) ({ cls := "NameNets$Script", name := "<init>", desc := "(LNameNets$Net;)V" } : Jvm.MethodName)) ∈ zbig := zm2 57 rfl rfl
set_option maxRecDepth 10000 in
theorem tw_378 : (Jvm.Cond.instanceMethod ({ cls := "NameNets$Script", name := "<init>", desc := "(LNameNets$Net;)V" } : Jvm.MethodName)) ∈ zbig := zm2 58 rfl rfl
set_option maxRecDepth 10000 in
theorem tw_379 : (Jvm.Cond.code ({ cls := "NameNets$Script", name := "<init>", desc := "(LNameNets$Net;)V" } : Jvm.MethodName) prog_8_method_1_code (2 : Nat) (Option.none : Option Jvm.ClassFile.FieldType)) ∈ zbig := zm2 59 rfl rfl
set_option maxRecDepth 10000 in
theorem tw_380 : (Jvm.Cond.methodLink "NameNets$Script" (3 : Nat) ({ cls := "java/lang/Object", name := "<init>", desc := "()V" } : Jvm.MethodName)) ∈ zbig := zm2 60 rfl rfl
set_option maxRecDepth 10000 in
theorem tw_381 : (Jvm.Cond.fieldLink "NameNets$Script" (50 : Nat) "NameNets$Script" "net" "LNameNets$Net;") ∈ zbig := zm2 61 rfl rfl
set_option maxRecDepth 10000 in
theorem tw_382 : (Jvm.Cond.fieldLink "NameNets$Script" (9 : Nat) "NameNets$Script" "text" "[B") ∈ zbig := zm2 62 rfl rfl
set_option maxRecDepth 10000 in
theorem tw_383 : (Jvm.Cond.fieldLink "NameNets$Script" (15 : Nat) "NameNets$Script" "length" "I") ∈ zbig := zm2 63 rfl rfl
set_option maxRecDepth 10000 in
theorem tw_384 : (Jvm.Cond.fieldLink "NameNets" (115 : Nat) "NameNets$Script" "length" "I") ∈ zbig := zm2 64 rfl rfl
set_option maxRecDepth 10000 in
theorem tw_385 : (Jvm.Cond.fieldLink "NameNets$Script" (19 : Nat) "NameNets$Script" "faultAt" "I") ∈ zbig := zm2 65 rfl rfl
set_option maxRecDepth 10000 in
theorem tw_386 : (Jvm.Cond.fieldLink "NameNets" (296 : Nat) "NameNets$Script" "faultAt" "I") ∈ zbig := zm2 66 rfl rfl
set_option maxRecDepth 10000 in
theorem tw_387 : (Jvm.Cond.fieldLink "NameNets$Script" (22 : Nat) "NameNets$Script" "faultNumber" "I") ∈ zbig := zm2 67 rfl rfl
set_option maxRecDepth 10000 in
theorem tw_388 : (Jvm.Cond.fieldLink "NameNets$Script" (25 : Nat) "NameNets$Script" "at" "I") ∈ zbig := zm2 68 rfl rfl
set_option maxRecDepth 10000 in
theorem tw_389 : (Jvm.Cond.fieldLink "NameNets$Script" (28 : Nat) "NameNets$Script" "questions" "I") ∈ zbig := zm2 69 rfl rfl
set_option maxRecDepth 10000 in
theorem tw_390 : (Jvm.Cond.fieldLink "NameNets" (274 : Nat) "NameNets$Script" "questions" "I") ∈ zbig := zm2 70 rfl rfl
set_option maxRecDepth 10000 in
theorem tw_391 : (Jvm.Cond.fieldLink "NameNets$Script" (31 : Nat) "NameNets$Script" "asked" "[I") ∈ zbig := zm2 71 rfl rfl
set_option maxRecDepth 10000 in
theorem tw_392 : (Jvm.Cond.fieldLink "NameNets" (280 : Nat) "NameNets$Script" "asked" "[I") ∈ zbig := zm2 72 rfl rfl
set_option maxRecDepth 10000 in
theorem tw_393 : (Jvm.Cond.fieldLink "NameNets$Script" (35 : Nat) "NameNets$Script" "first" "[I") ∈ zbig := zm2 73 rfl rfl
set_option maxRecDepth 10000 in
theorem tw_394 : (Jvm.Cond.fieldLink "NameNets" (283 : Nat) "NameNets$Script" "first" "[I") ∈ zbig := zm2 74 rfl rfl
set_option maxRecDepth 10000 in
theorem tw_395 : (Jvm.Cond.fieldLink "NameNets$Script" (38 : Nat) "NameNets$Script" "second" "[I") ∈ zbig := zm2 75 rfl rfl
set_option maxRecDepth 10000 in
theorem tw_396 : (Jvm.Cond.fieldLink "NameNets" (286 : Nat) "NameNets$Script" "second" "[I") ∈ zbig := zm2 76 rfl rfl
set_option maxRecDepth 10000 in
theorem tw_397 : (Jvm.Cond.fieldLink "NameNets$Script" (41 : Nat) "NameNets$Script" "failing" "[I") ∈ zbig := zm2 77 rfl rfl
set_option maxRecDepth 10000 in
theorem tw_398 : (Jvm.Cond.fieldLink "NameNets" (289 : Nat) "NameNets$Script" "failing" "[I") ∈ zbig := zm2 78 rfl rfl
set_option maxRecDepth 10000 in
theorem tw_399 : (Jvm.Cond.fieldLink "NameNets$Script" (44 : Nat) "NameNets$Script" "answers" "I") ∈ zbig := zm2 79 rfl rfl
set_option maxRecDepth 10000 in
theorem tw_400 : (Jvm.Cond.fieldLink "NameNets" (118 : Nat) "NameNets$Script" "answers" "I") ∈ zbig := zm2 80 rfl rfl
set_option maxRecDepth 10000 in
theorem tw_401 : (Jvm.Cond.fieldLink "NameNets$Script" (47 : Nat) "NameNets$Script" "replies" "[I") ∈ zbig := zm2 81 rfl rfl
set_option maxRecDepth 10000 in
theorem tw_402 : (Jvm.Cond.fieldLink "NameNets" (277 : Nat) "NameNets$Script" "replies" "[I") ∈ zbig := zm2 82 rfl rfl
set_option maxRecDepth 10000 in
theorem tw_430 : (Jvm.Cond.arrayClass Jvm.ClassFile.FieldType.byte) ∈ zbig := zm2 110 rfl rfl
set_option maxRecDepth 10000 in
theorem tw_431 : (Jvm.Cond.fieldLink "NameNets" (10 : Nat) "NameNets" "graph" "LNameNets$Net;") ∈ zbig := zm2 111 rfl rfl
set_option maxRecDepth 10000 in
theorem tw_432 : (Jvm.Cond.fieldLink "NameNets" (21 : Nat) "NameNets" "tree" "LNameNets$Tree;") ∈ zbig := zm2 112 rfl rfl
set_option maxRecDepth 10000 in
theorem tw_433 : (Jvm.Cond.fieldLink "NameNets" (30 : Nat) "NameNets" "labels" "LNameNets$Labels;") ∈ zbig := zm2 113 rfl rfl
set_option maxRecDepth 10000 in
theorem tw_434 : (Jvm.Cond.fieldLink "NameNets" (36 : Nat) "NameNets" "pages" "[LNameNets$Page;") ∈ zbig := zm2 114 rfl rfl
set_option maxRecDepth 10000 in
theorem tw_435 : (Jvm.Cond.fieldLink "NameNets" (48 : Nat) "NameNets" "parcels" "LNameNets$Parcels;") ∈ zbig := zm2 115 rfl rfl
set_option maxRecDepth 10000 in
theorem tw_436 : (Jvm.Cond.fieldLink "NameNets" (55 : Nat) "NameNets" "cuts" "LNameNets$Cuts;") ∈ zbig := zm2 116 rfl rfl
set_option maxRecDepth 10000 in
theorem tw_437 : (Jvm.Cond.fieldLink "NameNets" (62 : Nat) "NameNets" "smallNets" "LNameNets$SmallNets;") ∈ zbig := zm2 117 rfl rfl
set_option maxRecDepth 10000 in
theorem tw_438 : (Jvm.Cond.fieldLink "NameNets" (69 : Nat) "NameNets" "script" "LNameNets$Script;") ∈ zbig := zm2 118 rfl rfl
set_option maxRecDepth 10000 in
theorem tw_456 : (Jvm.Cond.methodLink "NameNetsLaw" (13 : Nat) ({ cls := "NameNets", name := "net", desc := "(I)I" } : Jvm.MethodName)) ∈ zbig := zm2 136 rfl rfl
set_option maxRecDepth 10000 in
theorem tw_457 : (Jvm.Cond.instanceMethod ({ cls := "NameNets", name := "net", desc := "(I)I" } : Jvm.MethodName)) ∈ zbig := zm2 137 rfl rfl
set_option maxRecDepth 10000 in
theorem tw_458 : (Jvm.Cond.selects "NameNets" ({ cls := "NameNets", name := "net", desc := "(I)I" } : Jvm.MethodName) ({ cls := "NameNets", name := "net", desc := "(I)I" } : Jvm.MethodName)) ∈ zbig := zm2 138 rfl rfl
set_option maxRecDepth 10000 in
theorem tw_459 : (Jvm.Cond.code ({ cls := "NameNets", name := "net", desc := "(I)I" } : Jvm.MethodName) prog_1_method_2_code (2 : Nat) (Option.some Jvm.ClassFile.FieldType.int)) ∈ zbig := zm2 139 rfl rfl
set_option maxRecDepth 10000 in
theorem tw_460 : (Jvm.Cond.methodLink "NameNets" (73 : Nat) ({ cls := "NameNets$Net", name := "begin", desc := "(I)V" } : Jvm.MethodName)) ∈ zbig := zm2 140 rfl rfl
set_option maxRecDepth 10000 in
theorem tw_461 : (Jvm.Cond.instanceMethod ({ cls := "NameNets$Net", name := "begin", desc := "(I)V" } : Jvm.MethodName)) ∈ zbig := zm2 141 rfl rfl
set_option maxRecDepth 10000 in
theorem tw_462 : (Jvm.Cond.selects "NameNets$Net" ({ cls := "NameNets$Net", name := "begin", desc := "(I)V" } : Jvm.MethodName) ({ cls := "NameNets$Net", name := "begin", desc := "(I)V" } : Jvm.MethodName)) ∈ zbig := zm2 142 rfl rfl
set_option maxRecDepth 10000 in
theorem tw_463 : (Jvm.Cond.code ({ cls := "NameNets$Net", name := "begin", desc := "(I)V" } : Jvm.MethodName) prog_5_method_10_code (2 : Nat) (Option.none : Option Jvm.ClassFile.FieldType)) ∈ zbig := zm2 143 rfl rfl
set_option maxRecDepth 10000 in
theorem tw_464 : (Jvm.Cond.methodLink "NameNets$Net" (50 : Nat) ({ cls := "java/util/Arrays", name := "fill", desc := "([II)V" } : Jvm.MethodName)) ∈ zbig := zm2 144 rfl rfl
set_option maxRecDepth 10000 in
theorem tw_465 : (Jvm.Cond.static ({ cls := "java/util/Arrays", name := "fill", desc := "([II)V" } : Jvm.MethodName)) ∈ zbig := zm2 145 rfl rfl
set_option maxRecDepth 10000 in
theorem tw_466 : (Jvm.Cond.code ({ cls := "java/util/Arrays", name := "fill", desc := "([II)V" } : Jvm.MethodName) prog_19_method_103_code (4 : Nat) (Option.none : Option Jvm.ClassFile.FieldType)) ∈ zbig := zm2 146 rfl rfl
set_option maxRecDepth 10000 in
theorem tw_467 : (Jvm.Cond.methodLink "NameNetsLaw" (18 : Nat) ({ cls := "NameNets", name := "post", desc := "()I" } : Jvm.MethodName)) ∈ zbig := zm2 147 rfl rfl
set_option maxRecDepth 10000 in
theorem tw_468 : (Jvm.Cond.instanceMethod ({ cls := "NameNets", name := "post", desc := "()I" } : Jvm.MethodName)) ∈ zbig := zm2 148 rfl rfl
set_option maxRecDepth 10000 in
theorem tw_469 : (Jvm.Cond.selects "NameNets" ({ cls := "NameNets", name := "post", desc := "()I" } : Jvm.MethodName) ({ cls := "NameNets", name := "post", desc := "()I" } : Jvm.MethodName)) ∈ zbig := zm2 149 rfl rfl
set_option maxRecDepth 10000 in
theorem tw_470 : (Jvm.Cond.code ({ cls := "NameNets", name := "post", desc := "()I" } : Jvm.MethodName) prog_1_method_3_code (1 : Nat) (Option.some Jvm.ClassFile.FieldType.int)) ∈ zbig := zm2 150 rfl rfl
set_option maxRecDepth 10000 in
theorem tw_471 : (Jvm.Cond.methodLink "NameNets" (80 : Nat) ({ cls := "NameNets$Net", name := "addPost", desc := "()I" } : Jvm.MethodName)) ∈ zbig := zm2 151 rfl rfl
set_option maxRecDepth 10000 in
theorem tw_472 : (Jvm.Cond.instanceMethod ({ cls := "NameNets$Net", name := "addPost", desc := "()I" } : Jvm.MethodName)) ∈ zbig := zm2 152 rfl rfl
set_option maxRecDepth 10000 in
theorem tw_473 : (Jvm.Cond.selects "NameNets$Net" ({ cls := "NameNets$Net", name := "addPost", desc := "()I" } : Jvm.MethodName) ({ cls := "NameNets$Net", name := "addPost", desc := "()I" } : Jvm.MethodName)) ∈ zbig := zm2 153 rfl rfl
set_option maxRecDepth 10000 in
theorem tw_474 : (Jvm.Cond.code ({ cls := "NameNets$Net", name := "addPost", desc := "()I" } : Jvm.MethodName) prog_5_method_11_code (1 : Nat) (Option.some Jvm.ClassFile.FieldType.int)) ∈ zbig := zm2 154 rfl rfl
set_option maxRecDepth 10000 in
theorem tw_475 : (Jvm.Cond.methodLink "NameNetsLaw" (23 : Nat) ({ cls := "NameNets", name := "line", desc := "(II)I" } : Jvm.MethodName)) ∈ zbig := zm2 155 rfl rfl
set_option maxRecDepth 10000 in
theorem tw_476 : (Jvm.Cond.instanceMethod ({ cls := "NameNets", name := "line", desc := "(II)I" } : Jvm.MethodName)) ∈ zbig := zm2 156 rfl rfl
set_option maxRecDepth 10000 in
theorem tw_477 : (Jvm.Cond.selects "NameNets" ({ cls := "NameNets", name := "line", desc := "(II)I" } : Jvm.MethodName) ({ cls := "NameNets", name := "line", desc := "(II)I" } : Jvm.MethodName)) ∈ zbig := zm2 157 rfl rfl
set_option maxRecDepth 10000 in
theorem tw_478 : (Jvm.Cond.code ({ cls := "NameNets", name := "line", desc := "(II)I" } : Jvm.MethodName) prog_1_method_4_code (3 : Nat) (Option.some Jvm.ClassFile.FieldType.int)) ∈ zbig := zm2 158 rfl rfl
set_option maxRecDepth 10000 in
theorem tw_479 : (Jvm.Cond.methodLink "NameNets" (84 : Nat) ({ cls := "NameNets$Net", name := "hasPosts", desc := "(II)Z" } : Jvm.MethodName)) ∈ zbig := zm2 159 rfl rfl
set_option maxRecDepth 10000 in
theorem tw_480 : (Jvm.Cond.instanceMethod ({ cls := "NameNets$Net", name := "hasPosts", desc := "(II)Z" } : Jvm.MethodName)) ∈ zbig := zm2 160 rfl rfl
set_option maxRecDepth 10000 in
theorem tw_481 : (Jvm.Cond.selects "NameNets$Net" ({ cls := "NameNets$Net", name := "hasPosts", desc := "(II)Z" } : Jvm.MethodName) ({ cls := "NameNets$Net", name := "hasPosts", desc := "(II)Z" } : Jvm.MethodName)) ∈ zbig := zm2 161 rfl rfl
set_option maxRecDepth 10000 in
theorem tw_482 : (Jvm.Cond.code ({ cls := "NameNets$Net", name := "hasPosts", desc := "(II)Z" } : Jvm.MethodName) prog_5_method_3_code (3 : Nat) (Option.some Jvm.ClassFile.FieldType.boolean)) ∈ zbig := zm2 162 rfl rfl
set_option maxRecDepth 10000 in
theorem tw_483 : (Jvm.Cond.methodLink "NameNets$Net" (31 : Nat) ({ cls := "NameNets$Net", name := "hasPost", desc := "(I)Z" } : Jvm.MethodName)) ∈ zbig := zm2 163 rfl rfl
set_option maxRecDepth 10000 in
theorem tw_484 : (Jvm.Cond.instanceMethod ({ cls := "NameNets$Net", name := "hasPost", desc := "(I)Z" } : Jvm.MethodName)) ∈ zbig := zm2 164 rfl rfl
set_option maxRecDepth 10000 in
theorem tw_485 : (Jvm.Cond.selects "NameNets$Net" ({ cls := "NameNets$Net", name := "hasPost", desc := "(I)Z" } : Jvm.MethodName) ({ cls := "NameNets$Net", name := "hasPost", desc := "(I)Z" } : Jvm.MethodName)) ∈ zbig := zm2 165 rfl rfl
set_option maxRecDepth 10000 in
theorem tw_486 : (Jvm.Cond.code ({ cls := "NameNets$Net", name := "hasPost", desc := "(I)Z" } : Jvm.MethodName) prog_5_method_2_code (2 : Nat) (Option.some Jvm.ClassFile.FieldType.boolean)) ∈ zbig := zm2 166 rfl rfl
set_option maxRecDepth 10000 in
theorem tw_487 : (Jvm.Cond.methodLink "NameNets" (88 : Nat) ({ cls := "NameNets$Net", name := "joins", desc := "(II)Z" } : Jvm.MethodName)) ∈ zbig := zm2 167 rfl rfl
set_option maxRecDepth 10000 in
theorem tw_488 : (Jvm.Cond.instanceMethod ({ cls := "NameNets$Net", name := "joins", desc := "(II)Z" } : Jvm.MethodName)) ∈ zbig := zm2 168 rfl rfl
set_option maxRecDepth 10000 in
theorem tw_489 : (Jvm.Cond.selects "NameNets$Net" ({ cls := "NameNets$Net", name := "joins", desc := "(II)Z" } : Jvm.MethodName) ({ cls := "NameNets$Net", name := "joins", desc := "(II)Z" } : Jvm.MethodName)) ∈ zbig := zm2 169 rfl rfl
set_option maxRecDepth 10000 in
theorem tw_490 : (Jvm.Cond.code ({ cls := "NameNets$Net", name := "joins", desc := "(II)Z" } : Jvm.MethodName) prog_5_method_6_code (3 : Nat) (Option.some Jvm.ClassFile.FieldType.boolean)) ∈ zbig := zm2 170 rfl rfl
set_option maxRecDepth 10000 in
theorem tw_491 : (Jvm.Cond.methodLink "NameNets" (94 : Nat) ({ cls := "NameNets$Net", name := "addLine", desc := "(II)I" } : Jvm.MethodName)) ∈ zbig := zm2 171 rfl rfl
set_option maxRecDepth 10000 in
theorem tw_492 : (Jvm.Cond.instanceMethod ({ cls := "NameNets$Net", name := "addLine", desc := "(II)I" } : Jvm.MethodName)) ∈ zbig := zm2 172 rfl rfl
set_option maxRecDepth 10000 in
theorem tw_493 : (Jvm.Cond.selects "NameNets$Net" ({ cls := "NameNets$Net", name := "addLine", desc := "(II)I" } : Jvm.MethodName) ({ cls := "NameNets$Net", name := "addLine", desc := "(II)I" } : Jvm.MethodName)) ∈ zbig := zm2 173 rfl rfl
set_option maxRecDepth 10000 in
theorem tw_494 : (Jvm.Cond.code ({ cls := "NameNets$Net", name := "addLine", desc := "(II)I" } : Jvm.MethodName) prog_5_method_12_code (3 : Nat) (Option.some Jvm.ClassFile.FieldType.int)) ∈ zbig := zm2 174 rfl rfl
set_option maxRecDepth 10000 in
theorem tw_495 : (Jvm.Cond.methodLink "NameNetsLaw" (28 : Nat) ({ cls := "NameNets", name := "strike", desc := "(I)I" } : Jvm.MethodName)) ∈ zbig := zm2 175 rfl rfl
set_option maxRecDepth 10000 in
theorem tw_496 : (Jvm.Cond.instanceMethod ({ cls := "NameNets", name := "strike", desc := "(I)I" } : Jvm.MethodName)) ∈ zbig := zm2 176 rfl rfl
set_option maxRecDepth 10000 in
theorem tw_497 : (Jvm.Cond.selects "NameNets" ({ cls := "NameNets", name := "strike", desc := "(I)I" } : Jvm.MethodName) ({ cls := "NameNets", name := "strike", desc := "(I)I" } : Jvm.MethodName)) ∈ zbig := zm2 177 rfl rfl
set_option maxRecDepth 10000 in
theorem tw_498 : (Jvm.Cond.code ({ cls := "NameNets", name := "strike", desc := "(I)I" } : Jvm.MethodName) prog_1_method_5_code (2 : Nat) (Option.some Jvm.ClassFile.FieldType.int)) ∈ zbig := zm2 178 rfl rfl
set_option maxRecDepth 10000 in
theorem tw_499 : (Jvm.Cond.methodLink "NameNets" (98 : Nat) ({ cls := "NameNets$Net", name := "hasLine", desc := "(I)Z" } : Jvm.MethodName)) ∈ zbig := zm2 179 rfl rfl
set_option maxRecDepth 10000 in
theorem tw_500 : (Jvm.Cond.instanceMethod ({ cls := "NameNets$Net", name := "hasLine", desc := "(I)Z" } : Jvm.MethodName)) ∈ zbig := zm2 180 rfl rfl
set_option maxRecDepth 10000 in
theorem tw_501 : (Jvm.Cond.selects "NameNets$Net" ({ cls := "NameNets$Net", name := "hasLine", desc := "(I)Z" } : Jvm.MethodName) ({ cls := "NameNets$Net", name := "hasLine", desc := "(I)Z" } : Jvm.MethodName)) ∈ zbig := zm2 181 rfl rfl
set_option maxRecDepth 10000 in
theorem tw_502 : (Jvm.Cond.code ({ cls := "NameNets$Net", name := "hasLine", desc := "(I)Z" } : Jvm.MethodName) prog_5_method_4_code (2 : Nat) (Option.some Jvm.ClassFile.FieldType.boolean)) ∈ zbig := zm2 182 rfl rfl
set_option maxRecDepth 10000 in
theorem tw_503 : (Jvm.Cond.methodLink "NameNets" (102 : Nat) ({ cls := "NameNets$Net", name := "removeLine", desc := "(I)V" } : Jvm.MethodName)) ∈ zbig := zm2 183 rfl rfl
set_option maxRecDepth 10000 in
theorem tw_504 : (Jvm.Cond.instanceMethod ({ cls := "NameNets$Net", name := "removeLine", desc := "(I)V" } : Jvm.MethodName)) ∈ zbig := zm2 184 rfl rfl
set_option maxRecDepth 10000 in
theorem tw_505 : (Jvm.Cond.selects "NameNets$Net" ({ cls := "NameNets$Net", name := "removeLine", desc := "(I)V" } : Jvm.MethodName) ({ cls := "NameNets$Net", name := "removeLine", desc := "(I)V" } : Jvm.MethodName)) ∈ zbig := zm2 185 rfl rfl
set_option maxRecDepth 10000 in
theorem tw_506 : (Jvm.Cond.code ({ cls := "NameNets$Net", name := "removeLine", desc := "(I)V" } : Jvm.MethodName) prog_5_method_13_code (3 : Nat) (Option.none : Option Jvm.ClassFile.FieldType)) ∈ zbig := zm2 186 rfl rfl
set_option maxRecDepth 10000 in
theorem tw_507 : (Jvm.Cond.methodLink "NameNetsLaw" (32 : Nat) ({ cls := "NameNets", name := "count", desc := "(I)I" } : Jvm.MethodName)) ∈ zbig := zm2 187 rfl rfl
set_option maxRecDepth 10000 in
theorem tw_508 : (Jvm.Cond.instanceMethod ({ cls := "NameNets", name := "count", desc := "(I)I" } : Jvm.MethodName)) ∈ zbig := zm2 188 rfl rfl
set_option maxRecDepth 10000 in
theorem tw_509 : (Jvm.Cond.selects "NameNets" ({ cls := "NameNets", name := "count", desc := "(I)I" } : Jvm.MethodName) ({ cls := "NameNets", name := "count", desc := "(I)I" } : Jvm.MethodName)) ∈ zbig := zm2 189 rfl rfl
set_option maxRecDepth 10000 in
theorem tw_510 : (Jvm.Cond.code ({ cls := "NameNets", name := "count", desc := "(I)I" } : Jvm.MethodName) prog_1_method_6_code (2 : Nat) (Option.some Jvm.ClassFile.FieldType.int)) ∈ zbig := zm2 190 rfl rfl
set_option maxRecDepth 10000 in
theorem tw_511 : (Jvm.Cond.methodLink "NameNets" (105 : Nat) ({ cls := "NameNets$Tree", name := "fresh", desc := "()LNameNets$Tree;" } : Jvm.MethodName)) ∈ zbig := zm2 191 rfl rfl
set_option maxRecDepth 10000 in
theorem tw_512 : (Jvm.Cond.instanceMethod ({ cls := "NameNets$Tree", name := "fresh", desc := "()LNameNets$Tree;" } : Jvm.MethodName)) ∈ zbig := zm2 192 rfl rfl
set_option maxRecDepth 10000 in
theorem tw_513 : (Jvm.Cond.selects "NameNets$Tree" ({ cls := "NameNets$Tree", name := "fresh", desc := "()LNameNets$Tree;" } : Jvm.MethodName) ({ cls := "NameNets$Tree", name := "fresh", desc := "()LNameNets$Tree;" } : Jvm.MethodName)) ∈ zbig := zm2 193 rfl rfl
set_option maxRecDepth 10000 in
theorem tw_514 : (Jvm.Cond.code ({ cls := "NameNets$Tree", name := "fresh", desc := "()LNameNets$Tree;" } : Jvm.MethodName) prog_10_method_2_code (2 : Nat) (Option.some (Jvm.ClassFile.FieldType.object "NameNets$Tree"))) ∈ zbig := zm2 194 rfl rfl
set_option maxRecDepth 10000 in
theorem tw_515 : (Jvm.Cond.methodLink "NameNets$Tree" (61 : Nat) ({ cls := "NameNets$Tree", name := "clear", desc := "()V" } : Jvm.MethodName)) ∈ zbig := zm2 195 rfl rfl
set_option maxRecDepth 10000 in
theorem tw_517 : (Jvm.Cond.instanceMethod ({ cls := "NameNets$Tree", name := "clear", desc := "()V" } : Jvm.MethodName)) ∈ zbig := zm2 197 rfl rfl
set_option maxRecDepth 10000 in
theorem tw_518 : (Jvm.Cond.code ({ cls := "NameNets$Tree", name := "clear", desc := "()V" } : Jvm.MethodName) prog_10_method_5_code (1 : Nat) (Option.none : Option Jvm.ClassFile.FieldType)) ∈ zbig := zm2 198 rfl rfl
set_option maxRecDepth 10000 in
theorem tw_519 : (Jvm.Cond.methodLink "NameNets$Tree" (67 : Nat) ({ cls := "NameNets$Tree", name := "growFrom", desc := "(I)V" } : Jvm.MethodName)) ∈ zbig := zm2 199 rfl rfl
set_option maxRecDepth 10000 in
theorem tw_521 : (Jvm.Cond.instanceMethod ({ cls := "NameNets$Tree", name := "growFrom", desc := "(I)V" } : Jvm.MethodName)) ∈ zbig := zm2 201 rfl rfl
set_option maxRecDepth 10000 in
theorem tw_522 : (Jvm.Cond.code ({ cls := "NameNets$Tree", name := "growFrom", desc := "(I)V" } : Jvm.MethodName) prog_10_method_6_code (7 : Nat) (Option.none : Option Jvm.ClassFile.FieldType)) ∈ zbig := zm2 202 rfl rfl
set_option maxRecDepth 10000 in
theorem tw_523 : (Jvm.Cond.methodLink "NameNets$Tree" (83 : Nat) ({ cls := "NameNets$Tree", name := "place", desc := "(I)V" } : Jvm.MethodName)) ∈ zbig := zm2 203 rfl rfl
set_option maxRecDepth 10000 in
theorem tw_525 : (Jvm.Cond.instanceMethod ({ cls := "NameNets$Tree", name := "place", desc := "(I)V" } : Jvm.MethodName)) ∈ zbig := zm2 205 rfl rfl
set_option maxRecDepth 10000 in
theorem tw_526 : (Jvm.Cond.code ({ cls := "NameNets$Tree", name := "place", desc := "(I)V" } : Jvm.MethodName) prog_10_method_7_code (2 : Nat) (Option.none : Option Jvm.ClassFile.FieldType)) ∈ zbig := zm2 206 rfl rfl
set_option maxRecDepth 10000 in
theorem tw_527 : (Jvm.Cond.methodLink "NameNets$Tree" (86 : Nat) ({ cls := "NameNets$Net", name := "joins", desc := "(II)Z" } : Jvm.MethodName)) ∈ zbig := zm2 207 rfl rfl
set_option maxRecDepth 10000 in
theorem tw_528 : (Jvm.Cond.methodLink "NameNets$Tree" (90 : Nat) ({ cls := "NameNets$Net", name := "lineBetween", desc := "(II)I" } : Jvm.MethodName)) ∈ zbig := zm2 208 rfl rfl
set_option maxRecDepth 10000 in
theorem tw_529 : (Jvm.Cond.instanceMethod ({ cls := "NameNets$Net", name := "lineBetween", desc := "(II)I" } : Jvm.MethodName)) ∈ zbig := zm2 209 rfl rfl
set_option maxRecDepth 10000 in
theorem tw_530 : (Jvm.Cond.selects "NameNets$Net" ({ cls := "NameNets$Net", name := "lineBetween", desc := "(II)I" } : Jvm.MethodName) ({ cls := "NameNets$Net", name := "lineBetween", desc := "(II)I" } : Jvm.MethodName)) ∈ zbig := zm2 210 rfl rfl
set_option maxRecDepth 10000 in
theorem tw_531 : (Jvm.Cond.code ({ cls := "NameNets$Net", name := "lineBetween", desc := "(II)I" } : Jvm.MethodName) prog_5_method_9_code (4 : Nat) (Option.some Jvm.ClassFile.FieldType.int)) ∈ zbig := zm2 211 rfl rfl
set_option maxRecDepth 10000 in
theorem tw_532 : (Jvm.Cond.methodLink "NameNets$Tree" (71 : Nat) ({ cls := "NameNets$Tree", name := "numberPosts", desc := "()V" } : Jvm.MethodName)) ∈ zbig := zm2 212 rfl rfl
set_option maxRecDepth 10000 in
theorem tw_534 : (Jvm.Cond.instanceMethod ({ cls := "NameNets$Tree", name := "numberPosts", desc := "()V" } : Jvm.MethodName)) ∈ zbig := zm2 214 rfl rfl
set_option maxRecDepth 10000 in
theorem tw_535 : (Jvm.Cond.code ({ cls := "NameNets$Tree", name := "numberPosts", desc := "()V" } : Jvm.MethodName) prog_10_method_8_code (5 : Nat) (Option.none : Option Jvm.ClassFile.FieldType)) ∈ zbig := zm2 215 rfl rfl
set_option maxRecDepth 10000 in
theorem tw_536 : (Jvm.Cond.methodLink "NameNets$Tree" (94 : Nat) ({ cls := "java/util/Arrays", name := "fill", desc := "([II)V" } : Jvm.MethodName)) ∈ zbig := zm2 216 rfl rfl
set_option maxRecDepth 10000 in
theorem tw_537 : (Jvm.Cond.methodLink "NameNets$Tree" (74 : Nat) ({ cls := "NameNets$Tree", name := "nameLines", desc := "()V" } : Jvm.MethodName)) ∈ zbig := zm2 217 rfl rfl
set_option maxRecDepth 10000 in
theorem tw_539 : (Jvm.Cond.instanceMethod ({ cls := "NameNets$Tree", name := "nameLines", desc := "()V" } : Jvm.MethodName)) ∈ zbig := zm2 219 rfl rfl
set_option maxRecDepth 10000 in
theorem tw_540 : (Jvm.Cond.code ({ cls := "NameNets$Tree", name := "nameLines", desc := "()V" } : Jvm.MethodName) prog_10_method_9_code (4 : Nat) (Option.none : Option Jvm.ClassFile.FieldType)) ∈ zbig := zm2 220 rfl rfl
set_option maxRecDepth 10000 in
theorem tw_541 : (Jvm.Cond.methodLink "NameNets" (112 : Nat) ({ cls := "NameNets", name := "kindsLearned", desc := "()I" } : Jvm.MethodName)) ∈ zbig := zm2 221 rfl rfl
set_option maxRecDepth 10000 in
theorem tw_543 : (Jvm.Cond.instanceMethod ({ cls := "NameNets", name := "kindsLearned", desc := "()I" } : Jvm.MethodName)) ∈ zbig := zm2 223 rfl rfl
set_option maxRecDepth 10000 in
theorem tw_544 : (Jvm.Cond.code ({ cls := "NameNets", name := "kindsLearned", desc := "()I" } : Jvm.MethodName) prog_1_method_32_code (3 : Nat) (Option.some Jvm.ClassFile.FieldType.int)) ∈ zbig := zm2 224 rfl rfl
set_option maxRecDepth 10000 in
theorem tw_545 : (Jvm.Cond.methodLink "NameNets" (121 : Nat) ({ cls := "NameNets$Net", name := "mostLines", desc := "()I" } : Jvm.MethodName)) ∈ zbig := zm2 225 rfl rfl
set_option maxRecDepth 10000 in
theorem tw_546 : (Jvm.Cond.instanceMethod ({ cls := "NameNets$Net", name := "mostLines", desc := "()I" } : Jvm.MethodName)) ∈ zbig := zm2 226 rfl rfl
set_option maxRecDepth 10000 in
theorem tw_547 : (Jvm.Cond.selects "NameNets$Net" ({ cls := "NameNets$Net", name := "mostLines", desc := "()I" } : Jvm.MethodName) ({ cls := "NameNets$Net", name := "mostLines", desc := "()I" } : Jvm.MethodName)) ∈ zbig := zm2 227 rfl rfl
set_option maxRecDepth 10000 in
theorem tw_548 : (Jvm.Cond.code ({ cls := "NameNets$Net", name := "mostLines", desc := "()I" } : Jvm.MethodName) prog_5_method_8_code (3 : Nat) (Option.some Jvm.ClassFile.FieldType.int)) ∈ zbig := zm2 228 rfl rfl
set_option maxRecDepth 10000 in
theorem tw_549 : (Jvm.Cond.methodLink "NameNets$Net" (41 : Nat) ({ cls := "NameNets$Net", name := "degree", desc := "(I)I" } : Jvm.MethodName)) ∈ zbig := zm2 229 rfl rfl
set_option maxRecDepth 10000 in
theorem tw_550 : (Jvm.Cond.instanceMethod ({ cls := "NameNets$Net", name := "degree", desc := "(I)I" } : Jvm.MethodName)) ∈ zbig := zm2 230 rfl rfl
set_option maxRecDepth 10000 in
theorem tw_551 : (Jvm.Cond.selects "NameNets$Net" ({ cls := "NameNets$Net", name := "degree", desc := "(I)I" } : Jvm.MethodName) ({ cls := "NameNets$Net", name := "degree", desc := "(I)I" } : Jvm.MethodName)) ∈ zbig := zm2 231 rfl rfl
set_option maxRecDepth 10000 in
theorem tw_552 : (Jvm.Cond.code ({ cls := "NameNets$Net", name := "degree", desc := "(I)I" } : Jvm.MethodName) prog_5_method_7_code (2 : Nat) (Option.some Jvm.ClassFile.FieldType.int)) ∈ zbig := zm2 232 rfl rfl
set_option maxRecDepth 10000 in
theorem tw_553 : (Jvm.Cond.methodLink "NameNets$Net" (35 : Nat) ({ cls := "java/lang/Integer", name := "bitCount", desc := "(I)I" } : Jvm.MethodName)) ∈ zbig := zm2 233 rfl rfl
set_option maxRecDepth 10000 in
theorem tw_554 : (Jvm.Cond.static ({ cls := "java/lang/Integer", name := "bitCount", desc := "(I)I" } : Jvm.MethodName)) ∈ zbig := zm2 234 rfl rfl
set_option maxRecDepth 10000 in
theorem tw_555 : (Jvm.Cond.code ({ cls := "java/lang/Integer", name := "bitCount", desc := "(I)I" } : Jvm.MethodName) prog_13_method_49_code (1 : Nat) (Option.some Jvm.ClassFile.FieldType.int)) ∈ zbig := zm2 235 rfl rfl
set_option maxRecDepth 10000 in
theorem tw_556 : (Jvm.Cond.constant "java/lang/Integer" (265 : Nat) (1431655765 : Int32)) ∈ zbig := zm2 236 rfl rfl
set_option maxRecDepth 10000 in
theorem tw_557 : (Jvm.Cond.constant "java/lang/Integer" (266 : Nat) (858993459 : Int32)) ∈ zbig := zm2 237 rfl rfl
set_option maxRecDepth 10000 in
theorem tw_558 : (Jvm.Cond.constant "java/lang/Integer" (267 : Nat) (252645135 : Int32)) ∈ zbig := zm2 238 rfl rfl
set_option maxRecDepth 10000 in
theorem tw_559 : (Jvm.Cond.methodLink "NameNets$Net" (44 : Nat) ({ cls := "java/lang/Math", name := "max", desc := "(II)I" } : Jvm.MethodName)) ∈ zbig := zm2 239 rfl rfl
set_option maxRecDepth 10000 in
theorem tw_560 : (Jvm.Cond.static ({ cls := "java/lang/Math", name := "max", desc := "(II)I" } : Jvm.MethodName)) ∈ zbig := zm3 0 rfl rfl
set_option maxRecDepth 10000 in
theorem tw_561 : (Jvm.Cond.code ({ cls := "java/lang/Math", name := "max", desc := "(II)I" } : Jvm.MethodName) prog_14_method_65_code (2 : Nat) (Option.some Jvm.ClassFile.FieldType.int)) ∈ zbig := zm3 1 rfl rfl
set_option maxRecDepth 10000 in
theorem tw_562 : (Jvm.Cond.methodLink "NameNetsLaw" (36 : Nat) ({ cls := "NameNets", name := "told", desc := "(II)I" } : Jvm.MethodName)) ∈ zbig := zm3 2 rfl rfl
set_option maxRecDepth 10000 in
theorem tw_563 : (Jvm.Cond.instanceMethod ({ cls := "NameNets", name := "told", desc := "(II)I" } : Jvm.MethodName)) ∈ zbig := zm3 3 rfl rfl
set_option maxRecDepth 10000 in
theorem tw_564 : (Jvm.Cond.selects "NameNets" ({ cls := "NameNets", name := "told", desc := "(II)I" } : Jvm.MethodName) ({ cls := "NameNets", name := "told", desc := "(II)I" } : Jvm.MethodName)) ∈ zbig := zm3 4 rfl rfl
set_option maxRecDepth 10000 in
theorem tw_565 : (Jvm.Cond.code ({ cls := "NameNets", name := "told", desc := "(II)I" } : Jvm.MethodName) prog_1_method_7_code (3 : Nat) (Option.some Jvm.ClassFile.FieldType.int)) ∈ zbig := zm3 5 rfl rfl
set_option maxRecDepth 10000 in
theorem tw_566 : (Jvm.Cond.methodLink "NameNets" (124 : Nat) ({ cls := "NameNets$Net", name := "hasPost", desc := "(I)Z" } : Jvm.MethodName)) ∈ zbig := zm3 6 rfl rfl
set_option maxRecDepth 10000 in
theorem tw_567 : (Jvm.Cond.methodLink "NameNets" (134 : Nat) ({ cls := "NameNets$Net", name := "degree", desc := "(I)I" } : Jvm.MethodName)) ∈ zbig := zm3 7 rfl rfl
set_option maxRecDepth 10000 in
theorem tw_568 : (Jvm.Cond.methodLink "NameNets" (138 : Nat) ({ cls := "NameNets$Tree", name := "depth", desc := "(I)I" } : Jvm.MethodName)) ∈ zbig := zm3 8 rfl rfl
set_option maxRecDepth 10000 in
theorem tw_569 : (Jvm.Cond.instanceMethod ({ cls := "NameNets$Tree", name := "depth", desc := "(I)I" } : Jvm.MethodName)) ∈ zbig := zm3 9 rfl rfl
set_option maxRecDepth 10000 in
theorem tw_570 : (Jvm.Cond.selects "NameNets$Tree" ({ cls := "NameNets$Tree", name := "depth", desc := "(I)I" } : Jvm.MethodName) ({ cls := "NameNets$Tree", name := "depth", desc := "(I)I" } : Jvm.MethodName)) ∈ zbig := zm3 10 rfl rfl
set_option maxRecDepth 10000 in
theorem tw_571 : (Jvm.Cond.code ({ cls := "NameNets$Tree", name := "depth", desc := "(I)I" } : Jvm.MethodName) prog_10_method_3_code (2 : Nat) (Option.some Jvm.ClassFile.FieldType.int)) ∈ zbig := zm3 11 rfl rfl
set_option maxRecDepth 10000 in
theorem tw_572 : (Jvm.Cond.methodLink "NameNets$Tree" (77 : Nat) ({ cls := "java/lang/Integer", name := "bitCount", desc := "(I)I" } : Jvm.MethodName)) ∈ zbig := zm3 12 rfl rfl
set_option maxRecDepth 10000 in
theorem tw_573 : (Jvm.Cond.methodLink "NameNets" (141 : Nat) ({ cls := "NameNets$Labels", name := "turnOf", desc := "(I)I" } : Jvm.MethodName)) ∈ zbig := zm3 13 rfl rfl
set_option maxRecDepth 10000 in
theorem tw_574 : (Jvm.Cond.instanceMethod ({ cls := "NameNets$Labels", name := "turnOf", desc := "(I)I" } : Jvm.MethodName)) ∈ zbig := zm3 14 rfl rfl
set_option maxRecDepth 10000 in
theorem tw_575 : (Jvm.Cond.selects "NameNets$Labels" ({ cls := "NameNets$Labels", name := "turnOf", desc := "(I)I" } : Jvm.MethodName) ({ cls := "NameNets$Labels", name := "turnOf", desc := "(I)I" } : Jvm.MethodName)) ∈ zbig := zm3 15 rfl rfl
set_option maxRecDepth 10000 in
theorem tw_576 : (Jvm.Cond.code ({ cls := "NameNets$Labels", name := "turnOf", desc := "(I)I" } : Jvm.MethodName) prog_3_method_3_code (2 : Nat) (Option.some Jvm.ClassFile.FieldType.int)) ∈ zbig := zm3 16 rfl rfl
set_option maxRecDepth 10000 in
theorem tw_577 : (Jvm.Cond.methodLink "NameNets$Labels" (72 : Nat) ({ cls := "NameNets$Labels", name := "now", desc := "(I)LNameNets$Names;" } : Jvm.MethodName)) ∈ zbig := zm3 17 rfl rfl
set_option maxRecDepth 10000 in
theorem tw_578 : (Jvm.Cond.instanceMethod ({ cls := "NameNets$Labels", name := "now", desc := "(I)LNameNets$Names;" } : Jvm.MethodName)) ∈ zbig := zm3 18 rfl rfl
set_option maxRecDepth 10000 in
theorem tw_579 : (Jvm.Cond.selects "NameNets$Labels" ({ cls := "NameNets$Labels", name := "now", desc := "(I)LNameNets$Names;" } : Jvm.MethodName) ({ cls := "NameNets$Labels", name := "now", desc := "(I)LNameNets$Names;" } : Jvm.MethodName)) ∈ zbig := zm3 19 rfl rfl
set_option maxRecDepth 10000 in
theorem tw_580 : (Jvm.Cond.code ({ cls := "NameNets$Labels", name := "now", desc := "(I)LNameNets$Names;" } : Jvm.MethodName) prog_3_method_2_code (3 : Nat) (Option.some (Jvm.ClassFile.FieldType.object "NameNets$Names"))) ∈ zbig := zm3 20 rfl rfl
set_option maxRecDepth 10000 in
theorem tw_581 : (Jvm.Cond.methodLink "NameNets$Labels" (59 : Nat) ({ cls := "NameNets$Names", name := "begin", desc := "(I)V" } : Jvm.MethodName)) ∈ zbig := zm3 21 rfl rfl
set_option maxRecDepth 10000 in
theorem tw_582 : (Jvm.Cond.instanceMethod ({ cls := "NameNets$Names", name := "begin", desc := "(I)V" } : Jvm.MethodName)) ∈ zbig := zm3 22 rfl rfl
set_option maxRecDepth 10000 in
theorem tw_583 : (Jvm.Cond.selects "NameNets$Names" ({ cls := "NameNets$Names", name := "begin", desc := "(I)V" } : Jvm.MethodName) ({ cls := "NameNets$Names", name := "begin", desc := "(I)V" } : Jvm.MethodName)) ∈ zbig := zm3 23 rfl rfl
set_option maxRecDepth 10000 in
theorem tw_584 : (Jvm.Cond.code ({ cls := "NameNets$Names", name := "begin", desc := "(I)V" } : Jvm.MethodName) prog_4_method_2_code (2 : Nat) (Option.none : Option Jvm.ClassFile.FieldType)) ∈ zbig := zm3 24 rfl rfl
set_option maxRecDepth 10000 in
theorem tw_585 : (Jvm.Cond.methodLink "NameNets$Names" (28 : Nat) ({ cls := "java/util/Arrays", name := "fill", desc := "([II)V" } : Jvm.MethodName)) ∈ zbig := zm3 25 rfl rfl
set_option maxRecDepth 10000 in
theorem tw_586 : (Jvm.Cond.methodLink "NameNets$Labels" (62 : Nat) ({ cls := "NameNets$Labels", name := "nameAbove", desc := "(LNameNets$Names;)V" } : Jvm.MethodName)) ∈ zbig := zm3 26 rfl rfl
set_option maxRecDepth 10000 in
theorem tw_588 : (Jvm.Cond.instanceMethod ({ cls := "NameNets$Labels", name := "nameAbove", desc := "(LNameNets$Names;)V" } : Jvm.MethodName)) ∈ zbig := zm3 28 rfl rfl
set_option maxRecDepth 10000 in
theorem tw_589 : (Jvm.Cond.code ({ cls := "NameNets$Labels", name := "nameAbove", desc := "(LNameNets$Names;)V" } : Jvm.MethodName) prog_3_method_5_code (4 : Nat) (Option.none : Option Jvm.ClassFile.FieldType)) ∈ zbig := zm3 29 rfl rfl
set_option maxRecDepth 10000 in
theorem tw_590 : (Jvm.Cond.methodLink "NameNets$Labels" (76 : Nat) ({ cls := "NameNets$Tree", name := "fresh", desc := "()LNameNets$Tree;" } : Jvm.MethodName)) ∈ zbig := zm3 30 rfl rfl
set_option maxRecDepth 10000 in
theorem tw_591 : (Jvm.Cond.methodLink "NameNets$Labels" (85 : Nat) ({ cls := "NameNets$Names", name := "append", desc := "(II)V" } : Jvm.MethodName)) ∈ zbig := zm3 31 rfl rfl
set_option maxRecDepth 10000 in
theorem tw_592 : (Jvm.Cond.instanceMethod ({ cls := "NameNets$Names", name := "append", desc := "(II)V" } : Jvm.MethodName)) ∈ zbig := zm3 32 rfl rfl
set_option maxRecDepth 10000 in
theorem tw_593 : (Jvm.Cond.selects "NameNets$Names" ({ cls := "NameNets$Names", name := "append", desc := "(II)V" } : Jvm.MethodName) ({ cls := "NameNets$Names", name := "append", desc := "(II)V" } : Jvm.MethodName)) ∈ zbig := zm3 33 rfl rfl
set_option maxRecDepth 10000 in
theorem tw_594 : (Jvm.Cond.code ({ cls := "NameNets$Names", name := "append", desc := "(II)V" } : Jvm.MethodName) prog_4_method_6_code (3 : Nat) (Option.none : Option Jvm.ClassFile.FieldType)) ∈ zbig := zm3 34 rfl rfl
set_option maxRecDepth 10000 in
theorem tw_595 : (Jvm.Cond.methodLink "NameNets$Labels" (66 : Nat) ({ cls := "NameNets$Labels", name := "nameJoined", desc := "(LNameNets$Names;)V" } : Jvm.MethodName)) ∈ zbig := zm3 35 rfl rfl
set_option maxRecDepth 10000 in
theorem tw_597 : (Jvm.Cond.instanceMethod ({ cls := "NameNets$Labels", name := "nameJoined", desc := "(LNameNets$Names;)V" } : Jvm.MethodName)) ∈ zbig := zm3 37 rfl rfl
set_option maxRecDepth 10000 in
theorem tw_598 : (Jvm.Cond.code ({ cls := "NameNets$Labels", name := "nameJoined", desc := "(LNameNets$Names;)V" } : Jvm.MethodName) prog_3_method_6_code (5 : Nat) (Option.none : Option Jvm.ClassFile.FieldType)) ∈ zbig := zm3 38 rfl rfl
set_option maxRecDepth 10000 in
theorem tw_599 : (Jvm.Cond.methodLink "NameNets$Labels" (92 : Nat) ({ cls := "NameNets$Labels", name := "fewestLines", desc := "(I)I" } : Jvm.MethodName)) ∈ zbig := zm3 39 rfl rfl
set_option maxRecDepth 10000 in
theorem tw_601 : (Jvm.Cond.instanceMethod ({ cls := "NameNets$Labels", name := "fewestLines", desc := "(I)I" } : Jvm.MethodName)) ∈ zbig := zm3 41 rfl rfl
set_option maxRecDepth 10000 in
theorem tw_602 : (Jvm.Cond.code ({ cls := "NameNets$Labels", name := "fewestLines", desc := "(I)I" } : Jvm.MethodName) prog_3_method_7_code (6 : Nat) (Option.some Jvm.ClassFile.FieldType.int)) ∈ zbig := zm3 42 rfl rfl
set_option maxRecDepth 10000 in
theorem tw_603 : (Jvm.Cond.methodLink "NameNets$Labels" (103 : Nat) ({ cls := "java/lang/Integer", name := "bitCount", desc := "(I)I" } : Jvm.MethodName)) ∈ zbig := zm3 43 rfl rfl
set_option maxRecDepth 10000 in
theorem tw_604 : (Jvm.Cond.methodLink "NameNets$Labels" (96 : Nat) ({ cls := "NameNets$Net", name := "joins", desc := "(II)Z" } : Jvm.MethodName)) ∈ zbig := zm3 44 rfl rfl
set_option maxRecDepth 10000 in
theorem tw_605 : (Jvm.Cond.methodLink "NameNets$Labels" (69 : Nat) ({ cls := "NameNets$Labels", name := "nameFar", desc := "(LNameNets$Names;)V" } : Jvm.MethodName)) ∈ zbig := zm3 45 rfl rfl
set_option maxRecDepth 10000 in
theorem tw_607 : (Jvm.Cond.instanceMethod ({ cls := "NameNets$Labels", name := "nameFar", desc := "(LNameNets$Names;)V" } : Jvm.MethodName)) ∈ zbig := zm3 47 rfl rfl
set_option maxRecDepth 10000 in
theorem tw_608 : (Jvm.Cond.code ({ cls := "NameNets$Labels", name := "nameFar", desc := "(LNameNets$Names;)V" } : Jvm.MethodName) prog_3_method_8_code (5 : Nat) (Option.none : Option Jvm.ClassFile.FieldType)) ∈ zbig := zm3 48 rfl rfl
set_option maxRecDepth 10000 in
theorem tw_609 : (Jvm.Cond.methodLink "NameNets$Labels" (108 : Nat) ({ cls := "NameNets$Labels", name := "mostLines", desc := "(I)I" } : Jvm.MethodName)) ∈ zbig := zm3 49 rfl rfl
set_option maxRecDepth 10000 in
theorem tw_611 : (Jvm.Cond.instanceMethod ({ cls := "NameNets$Labels", name := "mostLines", desc := "(I)I" } : Jvm.MethodName)) ∈ zbig := zm3 51 rfl rfl
set_option maxRecDepth 10000 in
theorem tw_612 : (Jvm.Cond.code ({ cls := "NameNets$Labels", name := "mostLines", desc := "(I)I" } : Jvm.MethodName) prog_3_method_9_code (5 : Nat) (Option.some Jvm.ClassFile.FieldType.int)) ∈ zbig := zm3 52 rfl rfl
set_option maxRecDepth 10000 in
theorem tw_613 : (Jvm.Cond.methodLink "NameNets$Labels" (115 : Nat) ({ cls := "NameNets$Net", name := "degree", desc := "(I)I" } : Jvm.MethodName)) ∈ zbig := zm3 53 rfl rfl
set_option maxRecDepth 10000 in
theorem tw_614 : (Jvm.Cond.methodLink "NameNets$Labels" (111 : Nat) ({ cls := "NameNets$Labels", name := "spread", desc := "(LNameNets$Names;I)V" } : Jvm.MethodName)) ∈ zbig := zm3 54 rfl rfl
set_option maxRecDepth 10000 in
theorem tw_616 : (Jvm.Cond.instanceMethod ({ cls := "NameNets$Labels", name := "spread", desc := "(LNameNets$Names;I)V" } : Jvm.MethodName)) ∈ zbig := zm3 56 rfl rfl
set_option maxRecDepth 10000 in
theorem tw_617 : (Jvm.Cond.code ({ cls := "NameNets$Labels", name := "spread", desc := "(LNameNets$Names;I)V" } : Jvm.MethodName) prog_3_method_10_code (9 : Nat) (Option.none : Option Jvm.ClassFile.FieldType)) ∈ zbig := zm3 57 rfl rfl
set_option maxRecDepth 10000 in
theorem tw_618 : (Jvm.Cond.methodLink "NameNets$Labels" (118 : Nat) ({ cls := "NameNets$Names", name := "distance", desc := "(II)I" } : Jvm.MethodName)) ∈ zbig := zm3 58 rfl rfl
set_option maxRecDepth 10000 in
theorem tw_619 : (Jvm.Cond.instanceMethod ({ cls := "NameNets$Names", name := "distance", desc := "(II)I" } : Jvm.MethodName)) ∈ zbig := zm3 59 rfl rfl
set_option maxRecDepth 10000 in
theorem tw_620 : (Jvm.Cond.selects "NameNets$Names" ({ cls := "NameNets$Names", name := "distance", desc := "(II)I" } : Jvm.MethodName) ({ cls := "NameNets$Names", name := "distance", desc := "(II)I" } : Jvm.MethodName)) ∈ zbig := zm3 60 rfl rfl
set_option maxRecDepth 10000 in
theorem tw_621 : (Jvm.Cond.code ({ cls := "NameNets$Names", name := "distance", desc := "(II)I" } : Jvm.MethodName) prog_4_method_12_code (7 : Nat) (Option.some Jvm.ClassFile.FieldType.int)) ∈ zbig := zm3 61 rfl rfl
set_option maxRecDepth 10000 in
theorem tw_622 : (Jvm.Cond.methodLink "NameNets$Names" (42 : Nat) ({ cls := "NameNets$Names", name := "number", desc := "(II)I" } : Jvm.MethodName)) ∈ zbig := zm3 62 rfl rfl
set_option maxRecDepth 10000 in
theorem tw_623 : (Jvm.Cond.instanceMethod ({ cls := "NameNets$Names", name := "number", desc := "(II)I" } : Jvm.MethodName)) ∈ zbig := zm3 63 rfl rfl
set_option maxRecDepth 10000 in
theorem tw_624 : (Jvm.Cond.selects "NameNets$Names" ({ cls := "NameNets$Names", name := "number", desc := "(II)I" } : Jvm.MethodName) ({ cls := "NameNets$Names", name := "number", desc := "(II)I" } : Jvm.MethodName)) ∈ zbig := zm3 64 rfl rfl
set_option maxRecDepth 10000 in
theorem tw_625 : (Jvm.Cond.code ({ cls := "NameNets$Names", name := "number", desc := "(II)I" } : Jvm.MethodName) prog_4_method_4_code (3 : Nat) (Option.some Jvm.ClassFile.FieldType.int)) ∈ zbig := zm3 65 rfl rfl
set_option maxRecDepth 10000 in
theorem tw_626 : (Jvm.Cond.methodLink "NameNets$Names" (59 : Nat) ({ cls := "java/lang/Math", name := "min", desc := "(II)I" } : Jvm.MethodName)) ∈ zbig := zm3 66 rfl rfl
set_option maxRecDepth 10000 in
theorem tw_627 : (Jvm.Cond.static ({ cls := "java/lang/Math", name := "min", desc := "(II)I" } : Jvm.MethodName)) ∈ zbig := zm3 67 rfl rfl
set_option maxRecDepth 10000 in
theorem tw_628 : (Jvm.Cond.code ({ cls := "java/lang/Math", name := "min", desc := "(II)I" } : Jvm.MethodName) prog_14_method_69_code (2 : Nat) (Option.some Jvm.ClassFile.FieldType.int)) ∈ zbig := zm3 68 rfl rfl
set_option maxRecDepth 10000 in
theorem tw_629 : (Jvm.Cond.methodLink "NameNets" (144 : Nat) ({ cls := "NameNets$Labels", name := "rankOf", desc := "(I)I" } : Jvm.MethodName)) ∈ zbig := zm3 69 rfl rfl
set_option maxRecDepth 10000 in
theorem tw_630 : (Jvm.Cond.instanceMethod ({ cls := "NameNets$Labels", name := "rankOf", desc := "(I)I" } : Jvm.MethodName)) ∈ zbig := zm3 70 rfl rfl
set_option maxRecDepth 10000 in
theorem tw_631 : (Jvm.Cond.selects "NameNets$Labels" ({ cls := "NameNets$Labels", name := "rankOf", desc := "(I)I" } : Jvm.MethodName) ({ cls := "NameNets$Labels", name := "rankOf", desc := "(I)I" } : Jvm.MethodName)) ∈ zbig := zm3 71 rfl rfl
set_option maxRecDepth 10000 in
theorem tw_632 : (Jvm.Cond.code ({ cls := "NameNets$Labels", name := "rankOf", desc := "(I)I" } : Jvm.MethodName) prog_3_method_4_code (2 : Nat) (Option.some Jvm.ClassFile.FieldType.int)) ∈ zbig := zm3 72 rfl rfl
set_option maxRecDepth 10000 in
theorem tw_633 : (Jvm.Cond.methodLink "NameNetsLaw" (40 : Nat) ({ cls := "NameNets", name := "lines", desc := "(II)I" } : Jvm.MethodName)) ∈ zbig := zm3 73 rfl rfl
set_option maxRecDepth 10000 in
theorem tw_634 : (Jvm.Cond.instanceMethod ({ cls := "NameNets", name := "lines", desc := "(II)I" } : Jvm.MethodName)) ∈ zbig := zm3 74 rfl rfl
set_option maxRecDepth 10000 in
theorem tw_635 : (Jvm.Cond.selects "NameNets" ({ cls := "NameNets", name := "lines", desc := "(II)I" } : Jvm.MethodName) ({ cls := "NameNets", name := "lines", desc := "(II)I" } : Jvm.MethodName)) ∈ zbig := zm3 75 rfl rfl
set_option maxRecDepth 10000 in
theorem tw_636 : (Jvm.Cond.code ({ cls := "NameNets", name := "lines", desc := "(II)I" } : Jvm.MethodName) prog_1_method_8_code (3 : Nat) (Option.some Jvm.ClassFile.FieldType.int)) ∈ zbig := zm3 76 rfl rfl
set_option maxRecDepth 10000 in
theorem tw_637 : (Jvm.Cond.methodLink "NameNetsLaw" (44 : Nat) ({ cls := "NameNets", name := "name", desc := "(III)I" } : Jvm.MethodName)) ∈ zbig := zm3 77 rfl rfl
set_option maxRecDepth 10000 in
theorem tw_638 : (Jvm.Cond.instanceMethod ({ cls := "NameNets", name := "name", desc := "(III)I" } : Jvm.MethodName)) ∈ zbig := zm3 78 rfl rfl
set_option maxRecDepth 10000 in
theorem tw_639 : (Jvm.Cond.selects "NameNets" ({ cls := "NameNets", name := "name", desc := "(III)I" } : Jvm.MethodName) ({ cls := "NameNets", name := "name", desc := "(III)I" } : Jvm.MethodName)) ∈ zbig := zm3 79 rfl rfl
set_option maxRecDepth 10000 in
theorem tw_640 : (Jvm.Cond.code ({ cls := "NameNets", name := "name", desc := "(III)I" } : Jvm.MethodName) prog_1_method_9_code (4 : Nat) (Option.some Jvm.ClassFile.FieldType.int)) ∈ zbig := zm3 80 rfl rfl
set_option maxRecDepth 10000 in
theorem tw_641 : (Jvm.Cond.methodLink "NameNets" (162 : Nat) ({ cls := "NameNets", name := "isNamedKind", desc := "(I)Z" } : Jvm.MethodName)) ∈ zbig := zm3 81 rfl rfl
set_option maxRecDepth 10000 in
theorem tw_642 : (Jvm.Cond.static ({ cls := "NameNets", name := "isNamedKind", desc := "(I)Z" } : Jvm.MethodName)) ∈ zbig := zm3 82 rfl rfl
set_option maxRecDepth 10000 in
theorem tw_643 : (Jvm.Cond.code ({ cls := "NameNets", name := "isNamedKind", desc := "(I)Z" } : Jvm.MethodName) prog_1_method_31_code (1 : Nat) (Option.some Jvm.ClassFile.FieldType.boolean)) ∈ zbig := zm3 83 rfl rfl
set_option maxRecDepth 10000 in
theorem tw_644 : (Jvm.Cond.methodLink "NameNets" (165 : Nat) ({ cls := "NameNets$Labels", name := "now", desc := "(I)LNameNets$Names;" } : Jvm.MethodName)) ∈ zbig := zm3 84 rfl rfl
set_option maxRecDepth 10000 in
theorem tw_645 : (Jvm.Cond.methodLink "NameNets" (169 : Nat) ({ cls := "NameNets$Names", name := "number", desc := "(II)I" } : Jvm.MethodName)) ∈ zbig := zm3 85 rfl rfl
set_option maxRecDepth 10000 in
theorem tw_646 : (Jvm.Cond.methodLink "NameNetsLaw" (49 : Nat) ({ cls := "NameNets", name := "bits", desc := "(II)I" } : Jvm.MethodName)) ∈ zbig := zm3 86 rfl rfl
set_option maxRecDepth 10000 in
theorem tw_647 : (Jvm.Cond.instanceMethod ({ cls := "NameNets", name := "bits", desc := "(II)I" } : Jvm.MethodName)) ∈ zbig := zm3 87 rfl rfl
set_option maxRecDepth 10000 in
theorem tw_648 : (Jvm.Cond.selects "NameNets" ({ cls := "NameNets", name := "bits", desc := "(II)I" } : Jvm.MethodName) ({ cls := "NameNets", name := "bits", desc := "(II)I" } : Jvm.MethodName)) ∈ zbig := zm3 88 rfl rfl
set_option maxRecDepth 10000 in
theorem tw_649 : (Jvm.Cond.code ({ cls := "NameNets", name := "bits", desc := "(II)I" } : Jvm.MethodName) prog_1_method_10_code (8 : Nat) (Option.some Jvm.ClassFile.FieldType.int)) ∈ zbig := zm3 89 rfl rfl
set_option maxRecDepth 10000 in
theorem tw_650 : (Jvm.Cond.methodLink "NameNets" (174 : Nat) ({ cls := "NameNets", name := "bitsOf", desc := "(II)I" } : Jvm.MethodName)) ∈ zbig := zm3 90 rfl rfl
set_option maxRecDepth 10000 in
theorem tw_652 : (Jvm.Cond.instanceMethod ({ cls := "NameNets", name := "bitsOf", desc := "(II)I" } : Jvm.MethodName)) ∈ zbig := zm3 92 rfl rfl
set_option maxRecDepth 10000 in
theorem tw_653 : (Jvm.Cond.code ({ cls := "NameNets", name := "bitsOf", desc := "(II)I" } : Jvm.MethodName) prog_1_method_34_code (5 : Nat) (Option.some Jvm.ClassFile.FieldType.int)) ∈ zbig := zm3 93 rfl rfl
set_option maxRecDepth 10000 in
theorem tw_654 : (Jvm.Cond.methodLink "NameNetsLaw" (53 : Nat) ({ cls := "NameNets", name := "ask", desc := "(III)I" } : Jvm.MethodName)) ∈ zbig := zm3 94 rfl rfl
set_option maxRecDepth 10000 in
theorem tw_655 : (Jvm.Cond.instanceMethod ({ cls := "NameNets", name := "ask", desc := "(III)I" } : Jvm.MethodName)) ∈ zbig := zm3 95 rfl rfl
set_option maxRecDepth 10000 in
theorem tw_656 : (Jvm.Cond.selects "NameNets" ({ cls := "NameNets", name := "ask", desc := "(III)I" } : Jvm.MethodName) ({ cls := "NameNets", name := "ask", desc := "(III)I" } : Jvm.MethodName)) ∈ zbig := zm3 96 rfl rfl
set_option maxRecDepth 10000 in
theorem tw_657 : (Jvm.Cond.code ({ cls := "NameNets", name := "ask", desc := "(III)I" } : Jvm.MethodName) prog_1_method_11_code (4 : Nat) (Option.some Jvm.ClassFile.FieldType.int)) ∈ zbig := zm3 97 rfl rfl
set_option maxRecDepth 10000 in
theorem tw_658 : (Jvm.Cond.methodLink "NameNets" (177 : Nat) ({ cls := "NameNets$Names", name := "reply", desc := "(II)I" } : Jvm.MethodName)) ∈ zbig := zm3 98 rfl rfl
set_option maxRecDepth 10000 in
theorem tw_659 : (Jvm.Cond.instanceMethod ({ cls := "NameNets$Names", name := "reply", desc := "(II)I" } : Jvm.MethodName)) ∈ zbig := zm3 99 rfl rfl
set_option maxRecDepth 10000 in
theorem tw_660 : (Jvm.Cond.selects "NameNets$Names" ({ cls := "NameNets$Names", name := "reply", desc := "(II)I" } : Jvm.MethodName) ({ cls := "NameNets$Names", name := "reply", desc := "(II)I" } : Jvm.MethodName)) ∈ zbig := zm3 100 rfl rfl
set_option maxRecDepth 10000 in
theorem tw_661 : (Jvm.Cond.code ({ cls := "NameNets$Names", name := "reply", desc := "(II)I" } : Jvm.MethodName) prog_4_method_9_code (3 : Nat) (Option.some Jvm.ClassFile.FieldType.int)) ∈ zbig := zm3 101 rfl rfl
set_option maxRecDepth 10000 in
theorem tw_662 : (Jvm.Cond.methodLink "NameNets$Names" (50 : Nat) ({ cls := "NameNets$Names", name := "isAbove", desc := "(II)Z" } : Jvm.MethodName)) ∈ zbig := zm3 102 rfl rfl
set_option maxRecDepth 10000 in
theorem tw_664 : (Jvm.Cond.instanceMethod ({ cls := "NameNets$Names", name := "isAbove", desc := "(II)Z" } : Jvm.MethodName)) ∈ zbig := zm3 104 rfl rfl
set_option maxRecDepth 10000 in
theorem tw_665 : (Jvm.Cond.code ({ cls := "NameNets$Names", name := "isAbove", desc := "(II)Z" } : Jvm.MethodName) prog_4_method_10_code (4 : Nat) (Option.some Jvm.ClassFile.FieldType.boolean)) ∈ zbig := zm3 105 rfl rfl
set_option maxRecDepth 10000 in
theorem tw_666 : (Jvm.Cond.methodLink "NameNets$Names" (53 : Nat) ({ cls := "NameNets$Names", name := "standsBehind", desc := "(II)Z" } : Jvm.MethodName)) ∈ zbig := zm3 106 rfl rfl
set_option maxRecDepth 10000 in
theorem tw_668 : (Jvm.Cond.instanceMethod ({ cls := "NameNets$Names", name := "standsBehind", desc := "(II)Z" } : Jvm.MethodName)) ∈ zbig := zm3 108 rfl rfl
set_option maxRecDepth 10000 in
theorem tw_669 : (Jvm.Cond.code ({ cls := "NameNets$Names", name := "standsBehind", desc := "(II)Z" } : Jvm.MethodName) prog_4_method_11_code (5 : Nat) (Option.some Jvm.ClassFile.FieldType.boolean)) ∈ zbig := zm3 109 rfl rfl
set_option maxRecDepth 10000 in
theorem tw_670 : (Jvm.Cond.methodLink "NameNets$Names" (56 : Nat) ({ cls := "NameNets$Names", name := "distance", desc := "(II)I" } : Jvm.MethodName)) ∈ zbig := zm3 110 rfl rfl
set_option maxRecDepth 10000 in
theorem tw_671 : (Jvm.Cond.methodLink "NameNetsLaw" (57 : Nat) ({ cls := "NameNets", name := "parted", desc := "(III)I" } : Jvm.MethodName)) ∈ zbig := zm3 111 rfl rfl
set_option maxRecDepth 10000 in
theorem tw_672 : (Jvm.Cond.instanceMethod ({ cls := "NameNets", name := "parted", desc := "(III)I" } : Jvm.MethodName)) ∈ zbig := zm3 112 rfl rfl
set_option maxRecDepth 10000 in
theorem tw_673 : (Jvm.Cond.selects "NameNets" ({ cls := "NameNets", name := "parted", desc := "(III)I" } : Jvm.MethodName) ({ cls := "NameNets", name := "parted", desc := "(III)I" } : Jvm.MethodName)) ∈ zbig := zm3 113 rfl rfl
set_option maxRecDepth 10000 in
theorem tw_674 : (Jvm.Cond.code ({ cls := "NameNets", name := "parted", desc := "(III)I" } : Jvm.MethodName) prog_1_method_12_code (4 : Nat) (Option.some Jvm.ClassFile.FieldType.int)) ∈ zbig := zm3 114 rfl rfl
set_option maxRecDepth 10000 in
theorem tw_675 : (Jvm.Cond.methodLink "NameNets" (180 : Nat) ({ cls := "NameNets$Net", name := "hasLines", desc := "(I)Z" } : Jvm.MethodName)) ∈ zbig := zm3 115 rfl rfl
set_option maxRecDepth 10000 in
theorem tw_676 : (Jvm.Cond.instanceMethod ({ cls := "NameNets$Net", name := "hasLines", desc := "(I)Z" } : Jvm.MethodName)) ∈ zbig := zm3 116 rfl rfl
set_option maxRecDepth 10000 in
theorem tw_677 : (Jvm.Cond.selects "NameNets$Net" ({ cls := "NameNets$Net", name := "hasLines", desc := "(I)Z" } : Jvm.MethodName) ({ cls := "NameNets$Net", name := "hasLines", desc := "(I)Z" } : Jvm.MethodName)) ∈ zbig := zm3 117 rfl rfl
set_option maxRecDepth 10000 in
theorem tw_678 : (Jvm.Cond.code ({ cls := "NameNets$Net", name := "hasLines", desc := "(I)Z" } : Jvm.MethodName) prog_5_method_5_code (2 : Nat) (Option.some Jvm.ClassFile.FieldType.boolean)) ∈ zbig := zm3 118 rfl rfl
set_option maxRecDepth 10000 in
theorem tw_679 : (Jvm.Cond.methodLink "NameNets" (183 : Nat) ({ cls := "java/lang/Integer", name := "bitCount", desc := "(I)I" } : Jvm.MethodName)) ∈ zbig := zm3 119 rfl rfl
set_option maxRecDepth 10000 in
theorem tw_680 : (Jvm.Cond.methodLink "NameNets" (188 : Nat) ({ cls := "NameNets$Cuts", name := "parts", desc := "(III)Z" } : Jvm.MethodName)) ∈ zbig := zm3 120 rfl rfl
set_option maxRecDepth 10000 in
theorem tw_681 : (Jvm.Cond.instanceMethod ({ cls := "NameNets$Cuts", name := "parts", desc := "(III)Z" } : Jvm.MethodName)) ∈ zbig := zm3 121 rfl rfl
set_option maxRecDepth 10000 in
theorem tw_682 : (Jvm.Cond.selects "NameNets$Cuts" ({ cls := "NameNets$Cuts", name := "parts", desc := "(III)Z" } : Jvm.MethodName) ({ cls := "NameNets$Cuts", name := "parts", desc := "(III)Z" } : Jvm.MethodName)) ∈ zbig := zm3 122 rfl rfl
set_option maxRecDepth 10000 in
theorem tw_683 : (Jvm.Cond.code ({ cls := "NameNets$Cuts", name := "parts", desc := "(III)Z" } : Jvm.MethodName) prog_2_method_2_code (7 : Nat) (Option.some Jvm.ClassFile.FieldType.boolean)) ∈ zbig := zm3 123 rfl rfl
set_option maxRecDepth 10000 in
theorem tw_684 : (Jvm.Cond.methodLink "NameNets$Cuts" (29 : Nat) ({ cls := "NameNets$Tree", name := "fresh", desc := "()LNameNets$Tree;" } : Jvm.MethodName)) ∈ zbig := zm3 124 rfl rfl
set_option maxRecDepth 10000 in
theorem tw_685 : (Jvm.Cond.methodLink "NameNets$Cuts" (41 : Nat) ({ cls := "java/lang/Integer", name := "bitCount", desc := "(I)I" } : Jvm.MethodName)) ∈ zbig := zm3 125 rfl rfl
set_option maxRecDepth 10000 in
theorem tw_686 : (Jvm.Cond.methodLink "NameNets$Cuts" (47 : Nat) ({ cls := "NameNets$Cuts", name := "namesGiveNothing", desc := "(I)Z" } : Jvm.MethodName)) ∈ zbig := zm3 126 rfl rfl
set_option maxRecDepth 10000 in
theorem tw_688 : (Jvm.Cond.instanceMethod ({ cls := "NameNets$Cuts", name := "namesGiveNothing", desc := "(I)Z" } : Jvm.MethodName)) ∈ zbig := zm3 128 rfl rfl
set_option maxRecDepth 10000 in
theorem tw_689 : (Jvm.Cond.code ({ cls := "NameNets$Cuts", name := "namesGiveNothing", desc := "(I)Z" } : Jvm.MethodName) prog_2_method_3_code (4 : Nat) (Option.some Jvm.ClassFile.FieldType.boolean)) ∈ zbig := zm3 129 rfl rfl
set_option maxRecDepth 10000 in
theorem tw_690 : (Jvm.Cond.methodLink "NameNetsLaw" (61 : Nat) ({ cls := "NameNets", name := "learn", desc := "(I)I" } : Jvm.MethodName)) ∈ zbig := zm3 130 rfl rfl
set_option maxRecDepth 10000 in
theorem tw_691 : (Jvm.Cond.instanceMethod ({ cls := "NameNets", name := "learn", desc := "(I)I" } : Jvm.MethodName)) ∈ zbig := zm3 131 rfl rfl
set_option maxRecDepth 10000 in
theorem tw_692 : (Jvm.Cond.selects "NameNets" ({ cls := "NameNets", name := "learn", desc := "(I)I" } : Jvm.MethodName) ({ cls := "NameNets", name := "learn", desc := "(I)I" } : Jvm.MethodName)) ∈ zbig := zm3 132 rfl rfl
set_option maxRecDepth 10000 in
theorem tw_693 : (Jvm.Cond.code ({ cls := "NameNets", name := "learn", desc := "(I)I" } : Jvm.MethodName) prog_1_method_13_code (4 : Nat) (Option.some Jvm.ClassFile.FieldType.int)) ∈ zbig := zm3 133 rfl rfl
set_option maxRecDepth 10000 in
theorem tw_694 : (Jvm.Cond.methodLink "NameNets" (192 : Nat) ({ cls := "NameNets$Page", name := "unlike", desc := "(LNameNets$Names;)I" } : Jvm.MethodName)) ∈ zbig := zm3 134 rfl rfl
set_option maxRecDepth 10000 in
theorem tw_695 : (Jvm.Cond.instanceMethod ({ cls := "NameNets$Page", name := "unlike", desc := "(LNameNets$Names;)I" } : Jvm.MethodName)) ∈ zbig := zm3 135 rfl rfl
set_option maxRecDepth 10000 in
theorem tw_696 : (Jvm.Cond.selects "NameNets$Page" ({ cls := "NameNets$Page", name := "unlike", desc := "(LNameNets$Names;)I" } : Jvm.MethodName) ({ cls := "NameNets$Page", name := "unlike", desc := "(LNameNets$Names;)I" } : Jvm.MethodName)) ∈ zbig := zm3 136 rfl rfl
set_option maxRecDepth 10000 in
theorem tw_697 : (Jvm.Cond.code ({ cls := "NameNets$Page", name := "unlike", desc := "(LNameNets$Names;)I" } : Jvm.MethodName) prog_6_method_6_code (4 : Nat) (Option.some Jvm.ClassFile.FieldType.int)) ∈ zbig := zm3 137 rfl rfl
set_option maxRecDepth 10000 in
theorem tw_698 : (Jvm.Cond.methodLink "NameNets$Page" (44 : Nat) ({ cls := "java/lang/Math", name := "max", desc := "(II)I" } : Jvm.MethodName)) ∈ zbig := zm3 138 rfl rfl
set_option maxRecDepth 10000 in
theorem tw_699 : (Jvm.Cond.methodLink "NameNets$Page" (50 : Nat) ({ cls := "NameNets$Names", name := "isLike", desc := "(LNameNets$Names;I)Z" } : Jvm.MethodName)) ∈ zbig := zm3 139 rfl rfl
set_option maxRecDepth 10000 in
theorem tw_700 : (Jvm.Cond.instanceMethod ({ cls := "NameNets$Names", name := "isLike", desc := "(LNameNets$Names;I)Z" } : Jvm.MethodName)) ∈ zbig := zm3 140 rfl rfl
set_option maxRecDepth 10000 in
theorem tw_701 : (Jvm.Cond.selects "NameNets$Names" ({ cls := "NameNets$Names", name := "isLike", desc := "(LNameNets$Names;I)Z" } : Jvm.MethodName) ({ cls := "NameNets$Names", name := "isLike", desc := "(LNameNets$Names;I)Z" } : Jvm.MethodName)) ∈ zbig := zm3 141 rfl rfl
set_option maxRecDepth 10000 in
theorem tw_702 : (Jvm.Cond.code ({ cls := "NameNets$Names", name := "isLike", desc := "(LNameNets$Names;I)Z" } : Jvm.MethodName) prog_4_method_8_code (4 : Nat) (Option.some Jvm.ClassFile.FieldType.boolean)) ∈ zbig := zm3 142 rfl rfl
set_option maxRecDepth 10000 in
theorem tw_703 : (Jvm.Cond.methodLink "NameNets" (196 : Nat) ({ cls := "NameNets$Page", name := "take", desc := "(LNameNets$Names;)V" } : Jvm.MethodName)) ∈ zbig := zm3 143 rfl rfl
set_option maxRecDepth 10000 in
theorem tw_704 : (Jvm.Cond.instanceMethod ({ cls := "NameNets$Page", name := "take", desc := "(LNameNets$Names;)V" } : Jvm.MethodName)) ∈ zbig := zm3 144 rfl rfl
set_option maxRecDepth 10000 in
theorem tw_705 : (Jvm.Cond.selects "NameNets$Page" ({ cls := "NameNets$Page", name := "take", desc := "(LNameNets$Names;)V" } : Jvm.MethodName) ({ cls := "NameNets$Page", name := "take", desc := "(LNameNets$Names;)V" } : Jvm.MethodName)) ∈ zbig := zm3 145 rfl rfl
set_option maxRecDepth 10000 in
theorem tw_706 : (Jvm.Cond.code ({ cls := "NameNets$Page", name := "take", desc := "(LNameNets$Names;)V" } : Jvm.MethodName) prog_6_method_3_code (3 : Nat) (Option.none : Option Jvm.ClassFile.FieldType)) ∈ zbig := zm3 146 rfl rfl
set_option maxRecDepth 10000 in
theorem tw_707 : (Jvm.Cond.methodLink "NameNets$Page" (32 : Nat) ({ cls := "NameNets$Names", name := "copy", desc := "(LNameNets$Names;)V" } : Jvm.MethodName)) ∈ zbig := zm3 147 rfl rfl
set_option maxRecDepth 10000 in
theorem tw_708 : (Jvm.Cond.instanceMethod ({ cls := "NameNets$Names", name := "copy", desc := "(LNameNets$Names;)V" } : Jvm.MethodName)) ∈ zbig := zm3 148 rfl rfl
set_option maxRecDepth 10000 in
theorem tw_709 : (Jvm.Cond.selects "NameNets$Names" ({ cls := "NameNets$Names", name := "copy", desc := "(LNameNets$Names;)V" } : Jvm.MethodName) ({ cls := "NameNets$Names", name := "copy", desc := "(LNameNets$Names;)V" } : Jvm.MethodName)) ∈ zbig := zm3 149 rfl rfl
set_option maxRecDepth 10000 in
theorem tw_710 : (Jvm.Cond.code ({ cls := "NameNets$Names", name := "copy", desc := "(LNameNets$Names;)V" } : Jvm.MethodName) prog_4_method_7_code (4 : Nat) (Option.none : Option Jvm.ClassFile.FieldType)) ∈ zbig := zm3 150 rfl rfl
set_option maxRecDepth 10000 in
theorem tw_711 : (Jvm.Cond.methodLink "NameNets$Names" (38 : Nat) ({ cls := "NameNets$Names", name := "begin", desc := "(I)V" } : Jvm.MethodName)) ∈ zbig := zm3 151 rfl rfl
set_option maxRecDepth 10000 in
theorem tw_712 : (Jvm.Cond.methodLink "NameNets$Names" (46 : Nat) ({ cls := "NameNets$Names", name := "append", desc := "(II)V" } : Jvm.MethodName)) ∈ zbig := zm3 152 rfl rfl
set_option maxRecDepth 10000 in
theorem tw_713 : (Jvm.Cond.methodLink "NameNets$Page" (36 : Nat) ({ cls := "NameNets$Page", name := "checkOf", desc := "(I)I" } : Jvm.MethodName)) ∈ zbig := zm3 153 rfl rfl
set_option maxRecDepth 10000 in
theorem tw_715 : (Jvm.Cond.instanceMethod ({ cls := "NameNets$Page", name := "checkOf", desc := "(I)I" } : Jvm.MethodName)) ∈ zbig := zm3 155 rfl rfl
set_option maxRecDepth 10000 in
theorem tw_716 : (Jvm.Cond.code ({ cls := "NameNets$Page", name := "checkOf", desc := "(I)I" } : Jvm.MethodName) prog_6_method_7_code (4 : Nat) (Option.some Jvm.ClassFile.FieldType.int)) ∈ zbig := zm3 156 rfl rfl
set_option maxRecDepth 10000 in
theorem tw_717 : (Jvm.Cond.methodLink "NameNets$Page" (57 : Nat) ({ cls := "NameNets$Names", name := "number", desc := "(II)I" } : Jvm.MethodName)) ∈ zbig := zm3 157 rfl rfl
set_option maxRecDepth 10000 in
theorem tw_718 : (Jvm.Cond.methodLink "NameNetsLaw" (65 : Nat) ({ cls := "NameNets", name := "forge", desc := "(IIII)I" } : Jvm.MethodName)) ∈ zbig := zm3 158 rfl rfl
set_option maxRecDepth 10000 in
theorem tw_719 : (Jvm.Cond.instanceMethod ({ cls := "NameNets", name := "forge", desc := "(IIII)I" } : Jvm.MethodName)) ∈ zbig := zm3 159 rfl rfl
set_option maxRecDepth 10000 in
theorem tw_720 : (Jvm.Cond.selects "NameNets" ({ cls := "NameNets", name := "forge", desc := "(IIII)I" } : Jvm.MethodName) ({ cls := "NameNets", name := "forge", desc := "(IIII)I" } : Jvm.MethodName)) ∈ zbig := zm3 160 rfl rfl
set_option maxRecDepth 10000 in
theorem tw_721 : (Jvm.Cond.code ({ cls := "NameNets", name := "forge", desc := "(IIII)I" } : Jvm.MethodName) prog_1_method_14_code (7 : Nat) (Option.some Jvm.ClassFile.FieldType.int)) ∈ zbig := zm3 161 rfl rfl
set_option maxRecDepth 10000 in
theorem tw_722 : (Jvm.Cond.methodLink "NameNets" (200 : Nat) ({ cls := "NameNets$Page", name := "has", desc := "(I)Z" } : Jvm.MethodName)) ∈ zbig := zm3 162 rfl rfl
set_option maxRecDepth 10000 in
theorem tw_723 : (Jvm.Cond.instanceMethod ({ cls := "NameNets$Page", name := "has", desc := "(I)Z" } : Jvm.MethodName)) ∈ zbig := zm3 163 rfl rfl
set_option maxRecDepth 10000 in
theorem tw_724 : (Jvm.Cond.selects "NameNets$Page" ({ cls := "NameNets$Page", name := "has", desc := "(I)Z" } : Jvm.MethodName) ({ cls := "NameNets$Page", name := "has", desc := "(I)Z" } : Jvm.MethodName)) ∈ zbig := zm3 164 rfl rfl
set_option maxRecDepth 10000 in
theorem tw_725 : (Jvm.Cond.code ({ cls := "NameNets$Page", name := "has", desc := "(I)Z" } : Jvm.MethodName) prog_6_method_2_code (2 : Nat) (Option.some Jvm.ClassFile.FieldType.boolean)) ∈ zbig := zm3 165 rfl rfl
set_option maxRecDepth 10000 in
theorem tw_726 : (Jvm.Cond.methodLink "NameNets" (207 : Nat) ({ cls := "NameNets$Names", name := "has", desc := "(II)Z" } : Jvm.MethodName)) ∈ zbig := zm3 166 rfl rfl
set_option maxRecDepth 10000 in
theorem tw_727 : (Jvm.Cond.instanceMethod ({ cls := "NameNets$Names", name := "has", desc := "(II)Z" } : Jvm.MethodName)) ∈ zbig := zm3 167 rfl rfl
set_option maxRecDepth 10000 in
theorem tw_728 : (Jvm.Cond.selects "NameNets$Names" ({ cls := "NameNets$Names", name := "has", desc := "(II)Z" } : Jvm.MethodName) ({ cls := "NameNets$Names", name := "has", desc := "(II)Z" } : Jvm.MethodName)) ∈ zbig := zm3 168 rfl rfl
set_option maxRecDepth 10000 in
theorem tw_729 : (Jvm.Cond.code ({ cls := "NameNets$Names", name := "has", desc := "(II)Z" } : Jvm.MethodName) prog_4_method_3_code (3 : Nat) (Option.some Jvm.ClassFile.FieldType.boolean)) ∈ zbig := zm3 169 rfl rfl
set_option maxRecDepth 10000 in
theorem tw_730 : (Jvm.Cond.methodLink "NameNets" (209 : Nat) ({ cls := "NameNets$Names", name := "put", desc := "(III)V" } : Jvm.MethodName)) ∈ zbig := zm3 170 rfl rfl
set_option maxRecDepth 10000 in
theorem tw_731 : (Jvm.Cond.instanceMethod ({ cls := "NameNets$Names", name := "put", desc := "(III)V" } : Jvm.MethodName)) ∈ zbig := zm3 171 rfl rfl
set_option maxRecDepth 10000 in
theorem tw_732 : (Jvm.Cond.selects "NameNets$Names" ({ cls := "NameNets$Names", name := "put", desc := "(III)V" } : Jvm.MethodName) ({ cls := "NameNets$Names", name := "put", desc := "(III)V" } : Jvm.MethodName)) ∈ zbig := zm3 172 rfl rfl
set_option maxRecDepth 10000 in
theorem tw_733 : (Jvm.Cond.code ({ cls := "NameNets$Names", name := "put", desc := "(III)V" } : Jvm.MethodName) prog_4_method_5_code (4 : Nat) (Option.none : Option Jvm.ClassFile.FieldType)) ∈ zbig := zm3 173 rfl rfl
set_option maxRecDepth 10000 in
theorem tw_734 : (Jvm.Cond.methodLink "NameNets$Names" (34 : Nat) ({ cls := "NameNets$Names", name := "has", desc := "(II)Z" } : Jvm.MethodName)) ∈ zbig := zm3 174 rfl rfl
set_option maxRecDepth 10000 in
theorem tw_735 : (Jvm.Cond.methodLink "NameNetsLaw" (70 : Nat) ({ cls := "NameNets", name := "book", desc := "(III)I" } : Jvm.MethodName)) ∈ zbig := zm3 175 rfl rfl
set_option maxRecDepth 10000 in
theorem tw_736 : (Jvm.Cond.instanceMethod ({ cls := "NameNets", name := "book", desc := "(III)I" } : Jvm.MethodName)) ∈ zbig := zm3 176 rfl rfl
set_option maxRecDepth 10000 in
theorem tw_737 : (Jvm.Cond.selects "NameNets" ({ cls := "NameNets", name := "book", desc := "(III)I" } : Jvm.MethodName) ({ cls := "NameNets", name := "book", desc := "(III)I" } : Jvm.MethodName)) ∈ zbig := zm3 177 rfl rfl
set_option maxRecDepth 10000 in
theorem tw_738 : (Jvm.Cond.code ({ cls := "NameNets", name := "book", desc := "(III)I" } : Jvm.MethodName) prog_1_method_15_code (5 : Nat) (Option.some Jvm.ClassFile.FieldType.int)) ∈ zbig := zm3 178 rfl rfl
set_option maxRecDepth 10000 in
theorem tw_739 : (Jvm.Cond.methodLink "NameNetsLaw" (74 : Nat) ({ cls := "NameNets", name := "answer", desc := "(III)I" } : Jvm.MethodName)) ∈ zbig := zm3 179 rfl rfl
set_option maxRecDepth 10000 in
theorem tw_740 : (Jvm.Cond.instanceMethod ({ cls := "NameNets", name := "answer", desc := "(III)I" } : Jvm.MethodName)) ∈ zbig := zm3 180 rfl rfl
set_option maxRecDepth 10000 in
theorem tw_741 : (Jvm.Cond.selects "NameNets" ({ cls := "NameNets", name := "answer", desc := "(III)I" } : Jvm.MethodName) ({ cls := "NameNets", name := "answer", desc := "(III)I" } : Jvm.MethodName)) ∈ zbig := zm3 181 rfl rfl
set_option maxRecDepth 10000 in
theorem tw_742 : (Jvm.Cond.code ({ cls := "NameNets", name := "answer", desc := "(III)I" } : Jvm.MethodName) prog_1_method_16_code (5 : Nat) (Option.some Jvm.ClassFile.FieldType.int)) ∈ zbig := zm3 182 rfl rfl
set_option maxRecDepth 10000 in
theorem tw_743 : (Jvm.Cond.methodLink "NameNets" (216 : Nat) ({ cls := "NameNets$Page", name := "isRight", desc := "(I)Z" } : Jvm.MethodName)) ∈ zbig := zm3 183 rfl rfl
set_option maxRecDepth 10000 in
theorem tw_744 : (Jvm.Cond.instanceMethod ({ cls := "NameNets$Page", name := "isRight", desc := "(I)Z" } : Jvm.MethodName)) ∈ zbig := zm3 184 rfl rfl
set_option maxRecDepth 10000 in
theorem tw_745 : (Jvm.Cond.selects "NameNets$Page" ({ cls := "NameNets$Page", name := "isRight", desc := "(I)Z" } : Jvm.MethodName) ({ cls := "NameNets$Page", name := "isRight", desc := "(I)Z" } : Jvm.MethodName)) ∈ zbig := zm3 185 rfl rfl
set_option maxRecDepth 10000 in
theorem tw_746 : (Jvm.Cond.code ({ cls := "NameNets$Page", name := "isRight", desc := "(I)Z" } : Jvm.MethodName) prog_6_method_4_code (2 : Nat) (Option.some Jvm.ClassFile.FieldType.boolean)) ∈ zbig := zm3 186 rfl rfl
set_option maxRecDepth 10000 in
theorem tw_747 : (Jvm.Cond.methodLink "NameNetsLaw" (78 : Nat) ({ cls := "NameNets", name := "stale", desc := "(I)I" } : Jvm.MethodName)) ∈ zbig := zm3 187 rfl rfl
set_option maxRecDepth 10000 in
theorem tw_748 : (Jvm.Cond.instanceMethod ({ cls := "NameNets", name := "stale", desc := "(I)I" } : Jvm.MethodName)) ∈ zbig := zm3 188 rfl rfl
set_option maxRecDepth 10000 in
theorem tw_749 : (Jvm.Cond.selects "NameNets" ({ cls := "NameNets", name := "stale", desc := "(I)I" } : Jvm.MethodName) ({ cls := "NameNets", name := "stale", desc := "(I)I" } : Jvm.MethodName)) ∈ zbig := zm3 189 rfl rfl
set_option maxRecDepth 10000 in
theorem tw_750 : (Jvm.Cond.code ({ cls := "NameNets", name := "stale", desc := "(I)I" } : Jvm.MethodName) prog_1_method_17_code (2 : Nat) (Option.some Jvm.ClassFile.FieldType.int)) ∈ zbig := zm3 190 rfl rfl
set_option maxRecDepth 10000 in
theorem tw_751 : (Jvm.Cond.methodLink "NameNetsLaw" (82 : Nat) ({ cls := "NameNets", name := "damaged", desc := "(I)I" } : Jvm.MethodName)) ∈ zbig := zm3 191 rfl rfl
set_option maxRecDepth 10000 in
theorem tw_752 : (Jvm.Cond.instanceMethod ({ cls := "NameNets", name := "damaged", desc := "(I)I" } : Jvm.MethodName)) ∈ zbig := zm3 192 rfl rfl
set_option maxRecDepth 10000 in
theorem tw_753 : (Jvm.Cond.selects "NameNets" ({ cls := "NameNets", name := "damaged", desc := "(I)I" } : Jvm.MethodName) ({ cls := "NameNets", name := "damaged", desc := "(I)I" } : Jvm.MethodName)) ∈ zbig := zm3 193 rfl rfl
set_option maxRecDepth 10000 in
theorem tw_754 : (Jvm.Cond.code ({ cls := "NameNets", name := "damaged", desc := "(I)I" } : Jvm.MethodName) prog_1_method_18_code (2 : Nat) (Option.some Jvm.ClassFile.FieldType.int)) ∈ zbig := zm3 194 rfl rfl
set_option maxRecDepth 10000 in
theorem tw_755 : (Jvm.Cond.methodLink "NameNets" (223 : Nat) ({ cls := "NameNets$Page", name := "wrongChecks", desc := "()I" } : Jvm.MethodName)) ∈ zbig := zm3 195 rfl rfl
set_option maxRecDepth 10000 in
theorem tw_756 : (Jvm.Cond.instanceMethod ({ cls := "NameNets$Page", name := "wrongChecks", desc := "()I" } : Jvm.MethodName)) ∈ zbig := zm3 196 rfl rfl
set_option maxRecDepth 10000 in
theorem tw_757 : (Jvm.Cond.selects "NameNets$Page" ({ cls := "NameNets$Page", name := "wrongChecks", desc := "()I" } : Jvm.MethodName) ({ cls := "NameNets$Page", name := "wrongChecks", desc := "()I" } : Jvm.MethodName)) ∈ zbig := zm3 197 rfl rfl
set_option maxRecDepth 10000 in
theorem tw_758 : (Jvm.Cond.code ({ cls := "NameNets$Page", name := "wrongChecks", desc := "()I" } : Jvm.MethodName) prog_6_method_5_code (3 : Nat) (Option.some Jvm.ClassFile.FieldType.int)) ∈ zbig := zm3 198 rfl rfl
set_option maxRecDepth 10000 in
theorem tw_759 : (Jvm.Cond.methodLink "NameNets$Page" (40 : Nat) ({ cls := "NameNets$Page", name := "isRight", desc := "(I)Z" } : Jvm.MethodName)) ∈ zbig := zm3 199 rfl rfl
set_option maxRecDepth 10000 in
theorem tw_760 : (Jvm.Cond.methodLink "NameNetsLaw" (86 : Nat) ({ cls := "NameNets", name := "next", desc := "(II)I" } : Jvm.MethodName)) ∈ zbig := zm3 200 rfl rfl
set_option maxRecDepth 10000 in
theorem tw_761 : (Jvm.Cond.instanceMethod ({ cls := "NameNets", name := "next", desc := "(II)I" } : Jvm.MethodName)) ∈ zbig := zm3 201 rfl rfl
set_option maxRecDepth 10000 in
theorem tw_762 : (Jvm.Cond.selects "NameNets" ({ cls := "NameNets", name := "next", desc := "(II)I" } : Jvm.MethodName) ({ cls := "NameNets", name := "next", desc := "(II)I" } : Jvm.MethodName)) ∈ zbig := zm3 202 rfl rfl
set_option maxRecDepth 10000 in
theorem tw_763 : (Jvm.Cond.code ({ cls := "NameNets", name := "next", desc := "(II)I" } : Jvm.MethodName) prog_1_method_19_code (3 : Nat) (Option.some Jvm.ClassFile.FieldType.int)) ∈ zbig := zm3 203 rfl rfl
set_option maxRecDepth 10000 in
theorem tw_764 : (Jvm.Cond.methodLink "NameNets" (226 : Nat) ({ cls := "NameNets$Parcels", name := "step", desc := "(II)I" } : Jvm.MethodName)) ∈ zbig := zm3 204 rfl rfl
set_option maxRecDepth 10000 in
theorem tw_765 : (Jvm.Cond.instanceMethod ({ cls := "NameNets$Parcels", name := "step", desc := "(II)I" } : Jvm.MethodName)) ∈ zbig := zm3 205 rfl rfl
set_option maxRecDepth 10000 in
theorem tw_766 : (Jvm.Cond.selects "NameNets$Parcels" ({ cls := "NameNets$Parcels", name := "step", desc := "(II)I" } : Jvm.MethodName) ({ cls := "NameNets$Parcels", name := "step", desc := "(II)I" } : Jvm.MethodName)) ∈ zbig := zm3 206 rfl rfl
set_option maxRecDepth 10000 in
theorem tw_767 : (Jvm.Cond.code ({ cls := "NameNets$Parcels", name := "step", desc := "(II)I" } : Jvm.MethodName) prog_7_method_2_code (5 : Nat) (Option.some Jvm.ClassFile.FieldType.int)) ∈ zbig := zm3 207 rfl rfl
set_option maxRecDepth 10000 in
theorem tw_768 : (Jvm.Cond.methodLink "NameNets$Parcels" (39 : Nat) ({ cls := "NameNets$Tree", name := "fresh", desc := "()LNameNets$Tree;" } : Jvm.MethodName)) ∈ zbig := zm3 208 rfl rfl
set_option maxRecDepth 10000 in
theorem tw_769 : (Jvm.Cond.methodLink "NameNets$Parcels" (49 : Nat) ({ cls := "NameNets$Tree", name := "isAbove", desc := "(II)Z" } : Jvm.MethodName)) ∈ zbig := zm3 209 rfl rfl
set_option maxRecDepth 10000 in
theorem tw_770 : (Jvm.Cond.instanceMethod ({ cls := "NameNets$Tree", name := "isAbove", desc := "(II)Z" } : Jvm.MethodName)) ∈ zbig := zm3 210 rfl rfl
set_option maxRecDepth 10000 in
theorem tw_771 : (Jvm.Cond.selects "NameNets$Tree" ({ cls := "NameNets$Tree", name := "isAbove", desc := "(II)Z" } : Jvm.MethodName) ({ cls := "NameNets$Tree", name := "isAbove", desc := "(II)Z" } : Jvm.MethodName)) ∈ zbig := zm3 211 rfl rfl
set_option maxRecDepth 10000 in
theorem tw_772 : (Jvm.Cond.code ({ cls := "NameNets$Tree", name := "isAbove", desc := "(II)Z" } : Jvm.MethodName) prog_10_method_4_code (3 : Nat) (Option.some Jvm.ClassFile.FieldType.boolean)) ∈ zbig := zm3 212 rfl rfl
set_option maxRecDepth 10000 in
theorem tw_773 : (Jvm.Cond.methodLink "NameNetsLaw" (90 : Nat) ({ cls := "NameNets", name := "goes", desc := "(II)I" } : Jvm.MethodName)) ∈ zbig := zm3 213 rfl rfl
set_option maxRecDepth 10000 in
theorem tw_774 : (Jvm.Cond.instanceMethod ({ cls := "NameNets", name := "goes", desc := "(II)I" } : Jvm.MethodName)) ∈ zbig := zm3 214 rfl rfl
set_option maxRecDepth 10000 in
theorem tw_775 : (Jvm.Cond.selects "NameNets" ({ cls := "NameNets", name := "goes", desc := "(II)I" } : Jvm.MethodName) ({ cls := "NameNets", name := "goes", desc := "(II)I" } : Jvm.MethodName)) ∈ zbig := zm3 215 rfl rfl
set_option maxRecDepth 10000 in
theorem tw_776 : (Jvm.Cond.code ({ cls := "NameNets", name := "goes", desc := "(II)I" } : Jvm.MethodName) prog_1_method_20_code (3 : Nat) (Option.some Jvm.ClassFile.FieldType.int)) ∈ zbig := zm3 216 rfl rfl
set_option maxRecDepth 10000 in
theorem tw_777 : (Jvm.Cond.methodLink "NameNets" (229 : Nat) ({ cls := "NameNets$Parcels", name := "length", desc := "(II)I" } : Jvm.MethodName)) ∈ zbig := zm3 217 rfl rfl
set_option maxRecDepth 10000 in
theorem tw_778 : (Jvm.Cond.instanceMethod ({ cls := "NameNets$Parcels", name := "length", desc := "(II)I" } : Jvm.MethodName)) ∈ zbig := zm3 218 rfl rfl
set_option maxRecDepth 10000 in
theorem tw_779 : (Jvm.Cond.selects "NameNets$Parcels" ({ cls := "NameNets$Parcels", name := "length", desc := "(II)I" } : Jvm.MethodName) ({ cls := "NameNets$Parcels", name := "length", desc := "(II)I" } : Jvm.MethodName)) ∈ zbig := zm3 219 rfl rfl
set_option maxRecDepth 10000 in
theorem tw_780 : (Jvm.Cond.code ({ cls := "NameNets$Parcels", name := "length", desc := "(II)I" } : Jvm.MethodName) prog_7_method_3_code (4 : Nat) (Option.some Jvm.ClassFile.FieldType.int)) ∈ zbig := zm3 220 rfl rfl
set_option maxRecDepth 10000 in
theorem tw_781 : (Jvm.Cond.methodLink "NameNets$Parcels" (64 : Nat) ({ cls := "java/lang/Integer", name := "bitCount", desc := "(I)I" } : Jvm.MethodName)) ∈ zbig := zm3 221 rfl rfl
set_option maxRecDepth 10000 in
theorem tw_782 : (Jvm.Cond.methodLink "NameNetsLaw" (94 : Nat) ({ cls := "NameNets", name := "stretch", desc := "(I)I" } : Jvm.MethodName)) ∈ zbig := zm3 222 rfl rfl
set_option maxRecDepth 10000 in
theorem tw_783 : (Jvm.Cond.instanceMethod ({ cls := "NameNets", name := "stretch", desc := "(I)I" } : Jvm.MethodName)) ∈ zbig := zm3 223 rfl rfl
set_option maxRecDepth 10000 in
theorem tw_784 : (Jvm.Cond.selects "NameNets" ({ cls := "NameNets", name := "stretch", desc := "(I)I" } : Jvm.MethodName) ({ cls := "NameNets", name := "stretch", desc := "(I)I" } : Jvm.MethodName)) ∈ zbig := zm3 224 rfl rfl
set_option maxRecDepth 10000 in
theorem tw_785 : (Jvm.Cond.code ({ cls := "NameNets", name := "stretch", desc := "(I)I" } : Jvm.MethodName) prog_1_method_21_code (2 : Nat) (Option.some Jvm.ClassFile.FieldType.int)) ∈ zbig := zm3 225 rfl rfl
set_option maxRecDepth 10000 in
theorem tw_786 : (Jvm.Cond.methodLink "NameNets" (231 : Nat) ({ cls := "NameNets$Parcels", name := "fresh", desc := "()LNameNets$Parcels;" } : Jvm.MethodName)) ∈ zbig := zm3 226 rfl rfl
set_option maxRecDepth 10000 in
theorem tw_787 : (Jvm.Cond.instanceMethod ({ cls := "NameNets$Parcels", name := "fresh", desc := "()LNameNets$Parcels;" } : Jvm.MethodName)) ∈ zbig := zm3 227 rfl rfl
set_option maxRecDepth 10000 in
theorem tw_788 : (Jvm.Cond.selects "NameNets$Parcels" ({ cls := "NameNets$Parcels", name := "fresh", desc := "()LNameNets$Parcels;" } : Jvm.MethodName) ({ cls := "NameNets$Parcels", name := "fresh", desc := "()LNameNets$Parcels;" } : Jvm.MethodName)) ∈ zbig := zm3 228 rfl rfl
set_option maxRecDepth 10000 in
theorem tw_789 : (Jvm.Cond.code ({ cls := "NameNets$Parcels", name := "fresh", desc := "()LNameNets$Parcels;" } : Jvm.MethodName) prog_7_method_4_code (1 : Nat) (Option.some (Jvm.ClassFile.FieldType.object "NameNets$Parcels"))) ∈ zbig := zm3 229 rfl rfl
set_option maxRecDepth 10000 in
theorem tw_790 : (Jvm.Cond.methodLink "NameNets$Parcels" (73 : Nat) ({ cls := "NameNets$Labels", name := "now", desc := "(I)LNameNets$Names;" } : Jvm.MethodName)) ∈ zbig := zm3 230 rfl rfl
set_option maxRecDepth 10000 in
theorem tw_791 : (Jvm.Cond.methodLink "NameNets$Parcels" (79 : Nat) ({ cls := "NameNets$Parcels", name := "findStretch", desc := "(LNameNets$Names;)V" } : Jvm.MethodName)) ∈ zbig := zm3 231 rfl rfl
set_option maxRecDepth 10000 in
theorem tw_793 : (Jvm.Cond.instanceMethod ({ cls := "NameNets$Parcels", name := "findStretch", desc := "(LNameNets$Names;)V" } : Jvm.MethodName)) ∈ zbig := zm3 233 rfl rfl
set_option maxRecDepth 10000 in
theorem tw_794 : (Jvm.Cond.code ({ cls := "NameNets$Parcels", name := "findStretch", desc := "(LNameNets$Names;)V" } : Jvm.MethodName) prog_7_method_5_code (5 : Nat) (Option.none : Option Jvm.ClassFile.FieldType)) ∈ zbig := zm3 234 rfl rfl
set_option maxRecDepth 10000 in
theorem tw_795 : (Jvm.Cond.methodLink "NameNets$Parcels" (86 : Nat) ({ cls := "NameNets$Parcels", name := "length", desc := "(II)I" } : Jvm.MethodName)) ∈ zbig := zm3 235 rfl rfl
set_option maxRecDepth 10000 in
theorem tw_796 : (Jvm.Cond.methodLink "NameNets$Parcels" (90 : Nat) ({ cls := "NameNets$Names", name := "distance", desc := "(II)I" } : Jvm.MethodName)) ∈ zbig := zm3 236 rfl rfl
set_option maxRecDepth 10000 in
theorem tw_797 : (Jvm.Cond.methodLink "NameNets$Parcels" (95 : Nat) ({ cls := "NameNets$Parcels", name := "offer", desc := "(IIII)V" } : Jvm.MethodName)) ∈ zbig := zm3 237 rfl rfl
set_option maxRecDepth 10000 in
theorem tw_799 : (Jvm.Cond.instanceMethod ({ cls := "NameNets$Parcels", name := "offer", desc := "(IIII)V" } : Jvm.MethodName)) ∈ zbig := zm3 239 rfl rfl
set_option maxRecDepth 10000 in
theorem tw_800 : (Jvm.Cond.code ({ cls := "NameNets$Parcels", name := "offer", desc := "(IIII)V" } : Jvm.MethodName) prog_7_method_6_code (5 : Nat) (Option.none : Option Jvm.ClassFile.FieldType)) ∈ zbig := zm4 0 rfl rfl
set_option maxRecDepth 10000 in
theorem tw_801 : (Jvm.Cond.methodLink "NameNets$Parcels" (83 : Nat) ({ cls := "NameNets$Parcels", name := "reduce", desc := "()V" } : Jvm.MethodName)) ∈ zbig := zm4 1 rfl rfl
set_option maxRecDepth 10000 in
theorem tw_803 : (Jvm.Cond.instanceMethod ({ cls := "NameNets$Parcels", name := "reduce", desc := "()V" } : Jvm.MethodName)) ∈ zbig := zm4 3 rfl rfl
set_option maxRecDepth 10000 in
theorem tw_804 : (Jvm.Cond.code ({ cls := "NameNets$Parcels", name := "reduce", desc := "()V" } : Jvm.MethodName) prog_7_method_7_code (2 : Nat) (Option.none : Option Jvm.ClassFile.FieldType)) ∈ zbig := zm4 4 rfl rfl
set_option maxRecDepth 10000 in
theorem tw_805 : (Jvm.Cond.methodLink "NameNetsLaw" (98 : Nat) ({ cls := "NameNets", name := "cut", desc := "(II)I" } : Jvm.MethodName)) ∈ zbig := zm4 5 rfl rfl
set_option maxRecDepth 10000 in
theorem tw_806 : (Jvm.Cond.instanceMethod ({ cls := "NameNets", name := "cut", desc := "(II)I" } : Jvm.MethodName)) ∈ zbig := zm4 6 rfl rfl
set_option maxRecDepth 10000 in
theorem tw_807 : (Jvm.Cond.selects "NameNets" ({ cls := "NameNets", name := "cut", desc := "(II)I" } : Jvm.MethodName) ({ cls := "NameNets", name := "cut", desc := "(II)I" } : Jvm.MethodName)) ∈ zbig := zm4 7 rfl rfl
set_option maxRecDepth 10000 in
theorem tw_808 : (Jvm.Cond.code ({ cls := "NameNets", name := "cut", desc := "(II)I" } : Jvm.MethodName) prog_1_method_22_code (3 : Nat) (Option.some Jvm.ClassFile.FieldType.int)) ∈ zbig := zm4 8 rfl rfl
set_option maxRecDepth 10000 in
theorem tw_809 : (Jvm.Cond.methodLink "NameNets" (244 : Nat) ({ cls := "NameNets$Cuts", name := "fewest", desc := "(II)I" } : Jvm.MethodName)) ∈ zbig := zm4 9 rfl rfl
set_option maxRecDepth 10000 in
theorem tw_810 : (Jvm.Cond.instanceMethod ({ cls := "NameNets$Cuts", name := "fewest", desc := "(II)I" } : Jvm.MethodName)) ∈ zbig := zm4 10 rfl rfl
set_option maxRecDepth 10000 in
theorem tw_811 : (Jvm.Cond.selects "NameNets$Cuts" ({ cls := "NameNets$Cuts", name := "fewest", desc := "(II)I" } : Jvm.MethodName) ({ cls := "NameNets$Cuts", name := "fewest", desc := "(II)I" } : Jvm.MethodName)) ∈ zbig := zm4 11 rfl rfl
set_option maxRecDepth 10000 in
theorem tw_812 : (Jvm.Cond.code ({ cls := "NameNets$Cuts", name := "fewest", desc := "(II)I" } : Jvm.MethodName) prog_2_method_4_code (7 : Nat) (Option.some Jvm.ClassFile.FieldType.int)) ∈ zbig := zm4 12 rfl rfl
set_option maxRecDepth 10000 in
theorem tw_813 : (Jvm.Cond.methodLink "NameNets$Cuts" (60 : Nat) ({ cls := "NameNets$Cuts", name := "search", desc := "(IIIII)I" } : Jvm.MethodName)) ∈ zbig := zm4 13 rfl rfl
set_option maxRecDepth 10000 in
theorem tw_815 : (Jvm.Cond.instanceMethod ({ cls := "NameNets$Cuts", name := "search", desc := "(IIIII)I" } : Jvm.MethodName)) ∈ zbig := zm4 15 rfl rfl
set_option maxRecDepth 10000 in
theorem tw_816 : (Jvm.Cond.code ({ cls := "NameNets$Cuts", name := "search", desc := "(IIIII)I" } : Jvm.MethodName) prog_2_method_5_code (8 : Nat) (Option.some Jvm.ClassFile.FieldType.int)) ∈ zbig := zm4 16 rfl rfl
set_option maxRecDepth 10000 in
theorem tw_817 : (Jvm.Cond.methodLink "NameNetsLaw" (102 : Nat) ({ cls := "NameNets", name := "ways", desc := "(II)I" } : Jvm.MethodName)) ∈ zbig := zm4 17 rfl rfl
set_option maxRecDepth 10000 in
theorem tw_818 : (Jvm.Cond.instanceMethod ({ cls := "NameNets", name := "ways", desc := "(II)I" } : Jvm.MethodName)) ∈ zbig := zm4 18 rfl rfl
set_option maxRecDepth 10000 in
theorem tw_819 : (Jvm.Cond.selects "NameNets" ({ cls := "NameNets", name := "ways", desc := "(II)I" } : Jvm.MethodName) ({ cls := "NameNets", name := "ways", desc := "(II)I" } : Jvm.MethodName)) ∈ zbig := zm4 19 rfl rfl
set_option maxRecDepth 10000 in
theorem tw_820 : (Jvm.Cond.code ({ cls := "NameNets", name := "ways", desc := "(II)I" } : Jvm.MethodName) prog_1_method_23_code (3 : Nat) (Option.some Jvm.ClassFile.FieldType.int)) ∈ zbig := zm4 20 rfl rfl
set_option maxRecDepth 10000 in
theorem tw_821 : (Jvm.Cond.methodLink "NameNets" (247 : Nat) ({ cls := "NameNets$Cuts", name := "separateWays", desc := "(II)I" } : Jvm.MethodName)) ∈ zbig := zm4 21 rfl rfl
set_option maxRecDepth 10000 in
theorem tw_822 : (Jvm.Cond.instanceMethod ({ cls := "NameNets$Cuts", name := "separateWays", desc := "(II)I" } : Jvm.MethodName)) ∈ zbig := zm4 22 rfl rfl
set_option maxRecDepth 10000 in
theorem tw_823 : (Jvm.Cond.selects "NameNets$Cuts" ({ cls := "NameNets$Cuts", name := "separateWays", desc := "(II)I" } : Jvm.MethodName) ({ cls := "NameNets$Cuts", name := "separateWays", desc := "(II)I" } : Jvm.MethodName)) ∈ zbig := zm4 23 rfl rfl
set_option maxRecDepth 10000 in
theorem tw_824 : (Jvm.Cond.code ({ cls := "NameNets$Cuts", name := "separateWays", desc := "(II)I" } : Jvm.MethodName) prog_2_method_6_code (4 : Nat) (Option.some Jvm.ClassFile.FieldType.int)) ∈ zbig := zm4 24 rfl rfl
set_option maxRecDepth 10000 in
theorem tw_825 : (Jvm.Cond.methodLink "NameNets$Cuts" (67 : Nat) ({ cls := "java/lang/System", name := "arraycopy", desc := "(Ljava/lang/Object;ILjava/lang/Object;II)V" } : Jvm.MethodName)) ∈ zbig := zm4 25 rfl rfl
set_option maxRecDepth 10000 in
theorem tw_826 : (Jvm.Cond.static ({ cls := "java/lang/System", name := "arraycopy", desc := "(Ljava/lang/Object;ILjava/lang/Object;II)V" } : Jvm.MethodName)) ∈ zbig := zm4 26 rfl rfl
set_option maxRecDepth 10000 in
theorem tw_827 : (Jvm.Cond.native ({ cls := "java/lang/System", name := "arraycopy", desc := "(Ljava/lang/Object;ILjava/lang/Object;II)V" } : Jvm.MethodName)) ∈ zbig := zm4 27 rfl rfl
set_option maxRecDepth 10000 in
theorem tw_828 : (Jvm.Cond.methodLink "NameNets$Cuts" (73 : Nat) ({ cls := "NameNets$Cuts", name := "reach", desc := "(II)Z" } : Jvm.MethodName)) ∈ zbig := zm4 28 rfl rfl
set_option maxRecDepth 10000 in
theorem tw_830 : (Jvm.Cond.instanceMethod ({ cls := "NameNets$Cuts", name := "reach", desc := "(II)Z" } : Jvm.MethodName)) ∈ zbig := zm4 30 rfl rfl
set_option maxRecDepth 10000 in
theorem tw_831 : (Jvm.Cond.code ({ cls := "NameNets$Cuts", name := "reach", desc := "(II)Z" } : Jvm.MethodName) prog_2_method_7_code (8 : Nat) (Option.some Jvm.ClassFile.FieldType.boolean)) ∈ zbig := zm4 31 rfl rfl
set_option maxRecDepth 10000 in
theorem tw_832 : (Jvm.Cond.methodLink "NameNets$Cuts" (77 : Nat) ({ cls := "NameNets$Cuts", name := "takeWay", desc := "(II)V" } : Jvm.MethodName)) ∈ zbig := zm4 32 rfl rfl
set_option maxRecDepth 10000 in
theorem tw_834 : (Jvm.Cond.instanceMethod ({ cls := "NameNets$Cuts", name := "takeWay", desc := "(II)V" } : Jvm.MethodName)) ∈ zbig := zm4 34 rfl rfl
set_option maxRecDepth 10000 in
theorem tw_835 : (Jvm.Cond.code ({ cls := "NameNets$Cuts", name := "takeWay", desc := "(II)V" } : Jvm.MethodName) prog_2_method_8_code (6 : Nat) (Option.none : Option Jvm.ClassFile.FieldType)) ∈ zbig := zm4 35 rfl rfl
set_option maxRecDepth 10000 in
theorem tw_836 : (Jvm.Cond.methodLink "NameNetsLaw" (106 : Nat) ({ cls := "NameNets", name := "holds", desc := "(IIII)I" } : Jvm.MethodName)) ∈ zbig := zm4 36 rfl rfl
set_option maxRecDepth 10000 in
theorem tw_837 : (Jvm.Cond.instanceMethod ({ cls := "NameNets", name := "holds", desc := "(IIII)I" } : Jvm.MethodName)) ∈ zbig := zm4 37 rfl rfl
set_option maxRecDepth 10000 in
theorem tw_838 : (Jvm.Cond.selects "NameNets" ({ cls := "NameNets", name := "holds", desc := "(IIII)I" } : Jvm.MethodName) ({ cls := "NameNets", name := "holds", desc := "(IIII)I" } : Jvm.MethodName)) ∈ zbig := zm4 38 rfl rfl
set_option maxRecDepth 10000 in
theorem tw_839 : (Jvm.Cond.code ({ cls := "NameNets", name := "holds", desc := "(IIII)I" } : Jvm.MethodName) prog_1_method_24_code (5 : Nat) (Option.some Jvm.ClassFile.FieldType.int)) ∈ zbig := zm4 39 rfl rfl
set_option maxRecDepth 10000 in
theorem tw_840 : (Jvm.Cond.methodLink "NameNets" (250 : Nat) ({ cls := "NameNets$SmallNets", name := "isOne", desc := "(II)Z" } : Jvm.MethodName)) ∈ zbig := zm4 40 rfl rfl
set_option maxRecDepth 10000 in
theorem tw_841 : (Jvm.Cond.static ({ cls := "NameNets$SmallNets", name := "isOne", desc := "(II)Z" } : Jvm.MethodName)) ∈ zbig := zm4 41 rfl rfl
set_option maxRecDepth 10000 in
theorem tw_842 : (Jvm.Cond.code ({ cls := "NameNets$SmallNets", name := "isOne", desc := "(II)Z" } : Jvm.MethodName) prog_9_method_2_code (2 : Nat) (Option.some Jvm.ClassFile.FieldType.boolean)) ∈ zbig := zm4 42 rfl rfl
set_option maxRecDepth 10000 in
theorem tw_843 : (Jvm.Cond.methodLink "NameNets$SmallNets" (22 : Nat) ({ cls := "NameNets$SmallNets", name := "pairs", desc := "(I)I" } : Jvm.MethodName)) ∈ zbig := zm4 43 rfl rfl
set_option maxRecDepth 10000 in
theorem tw_844 : (Jvm.Cond.static ({ cls := "NameNets$SmallNets", name := "pairs", desc := "(I)I" } : Jvm.MethodName)) ∈ zbig := zm4 44 rfl rfl
set_option maxRecDepth 10000 in
theorem tw_845 : (Jvm.Cond.code ({ cls := "NameNets$SmallNets", name := "pairs", desc := "(I)I" } : Jvm.MethodName) prog_9_method_3_code (1 : Nat) (Option.some Jvm.ClassFile.FieldType.int)) ∈ zbig := zm4 45 rfl rfl
set_option maxRecDepth 10000 in
theorem tw_846 : (Jvm.Cond.methodLink "NameNets" (253 : Nat) ({ cls := "NameNets$SmallNets", name := "contains", desc := "(IIII)Z" } : Jvm.MethodName)) ∈ zbig := zm4 46 rfl rfl
set_option maxRecDepth 10000 in
theorem tw_847 : (Jvm.Cond.instanceMethod ({ cls := "NameNets$SmallNets", name := "contains", desc := "(IIII)Z" } : Jvm.MethodName)) ∈ zbig := zm4 47 rfl rfl
set_option maxRecDepth 10000 in
theorem tw_848 : (Jvm.Cond.selects "NameNets$SmallNets" ({ cls := "NameNets$SmallNets", name := "contains", desc := "(IIII)Z" } : Jvm.MethodName) ({ cls := "NameNets$SmallNets", name := "contains", desc := "(IIII)Z" } : Jvm.MethodName)) ∈ zbig := zm4 48 rfl rfl
set_option maxRecDepth 10000 in
theorem tw_849 : (Jvm.Cond.code ({ cls := "NameNets$SmallNets", name := "contains", desc := "(IIII)Z" } : Jvm.MethodName) prog_9_method_6_code (5 : Nat) (Option.some Jvm.ClassFile.FieldType.boolean)) ∈ zbig := zm4 49 rfl rfl
set_option maxRecDepth 10000 in
theorem tw_850 : (Jvm.Cond.methodLink "NameNets$SmallNets" (49 : Nat) ({ cls := "NameNets$SmallNets", name := "seat", desc := "(IIIII)Z" } : Jvm.MethodName)) ∈ zbig := zm4 50 rfl rfl
set_option maxRecDepth 10000 in
theorem tw_852 : (Jvm.Cond.instanceMethod ({ cls := "NameNets$SmallNets", name := "seat", desc := "(IIIII)Z" } : Jvm.MethodName)) ∈ zbig := zm4 52 rfl rfl
set_option maxRecDepth 10000 in
theorem tw_853 : (Jvm.Cond.code ({ cls := "NameNets$SmallNets", name := "seat", desc := "(IIIII)Z" } : Jvm.MethodName) prog_9_method_7_code (7 : Nat) (Option.some Jvm.ClassFile.FieldType.boolean)) ∈ zbig := zm4 53 rfl rfl
set_option maxRecDepth 10000 in
theorem tw_854 : (Jvm.Cond.methodLink "NameNets$SmallNets" (53 : Nat) ({ cls := "NameNets$SmallNets", name := "fits", desc := "(III)Z" } : Jvm.MethodName)) ∈ zbig := zm4 54 rfl rfl
set_option maxRecDepth 10000 in
theorem tw_856 : (Jvm.Cond.instanceMethod ({ cls := "NameNets$SmallNets", name := "fits", desc := "(III)Z" } : Jvm.MethodName)) ∈ zbig := zm4 56 rfl rfl
set_option maxRecDepth 10000 in
theorem tw_857 : (Jvm.Cond.code ({ cls := "NameNets$SmallNets", name := "fits", desc := "(III)Z" } : Jvm.MethodName) prog_9_method_8_code (6 : Nat) (Option.some Jvm.ClassFile.FieldType.boolean)) ∈ zbig := zm4 57 rfl rfl
set_option maxRecDepth 10000 in
theorem tw_858 : (Jvm.Cond.methodLink "NameNets$SmallNets" (46 : Nat) ({ cls := "NameNets$SmallNets", name := "pairBit", desc := "(II)I" } : Jvm.MethodName)) ∈ zbig := zm4 58 rfl rfl
set_option maxRecDepth 10000 in
theorem tw_859 : (Jvm.Cond.static ({ cls := "NameNets$SmallNets", name := "pairBit", desc := "(II)I" } : Jvm.MethodName)) ∈ zbig := zm4 59 rfl rfl
set_option maxRecDepth 10000 in
theorem tw_860 : (Jvm.Cond.code ({ cls := "NameNets$SmallNets", name := "pairBit", desc := "(II)I" } : Jvm.MethodName) prog_9_method_4_code (2 : Nat) (Option.some Jvm.ClassFile.FieldType.int)) ∈ zbig := zm4 60 rfl rfl
set_option maxRecDepth 10000 in
theorem tw_861 : (Jvm.Cond.methodLink "NameNets$SmallNets" (26 : Nat) ({ cls := "java/lang/Math", name := "max", desc := "(II)I" } : Jvm.MethodName)) ∈ zbig := zm4 61 rfl rfl
set_option maxRecDepth 10000 in
theorem tw_862 : (Jvm.Cond.methodLink "NameNets$SmallNets" (32 : Nat) ({ cls := "java/lang/Math", name := "min", desc := "(II)I" } : Jvm.MethodName)) ∈ zbig := zm4 62 rfl rfl
set_option maxRecDepth 10000 in
theorem tw_863 : (Jvm.Cond.methodLink "NameNetsLaw" (110 : Nat) ({ cls := "NameNets", name := "universal", desc := "(III)I" } : Jvm.MethodName)) ∈ zbig := zm4 63 rfl rfl
set_option maxRecDepth 10000 in
theorem tw_864 : (Jvm.Cond.instanceMethod ({ cls := "NameNets", name := "universal", desc := "(III)I" } : Jvm.MethodName)) ∈ zbig := zm4 64 rfl rfl
set_option maxRecDepth 10000 in
theorem tw_865 : (Jvm.Cond.selects "NameNets" ({ cls := "NameNets", name := "universal", desc := "(III)I" } : Jvm.MethodName) ({ cls := "NameNets", name := "universal", desc := "(III)I" } : Jvm.MethodName)) ∈ zbig := zm4 65 rfl rfl
set_option maxRecDepth 10000 in
theorem tw_866 : (Jvm.Cond.code ({ cls := "NameNets", name := "universal", desc := "(III)I" } : Jvm.MethodName) prog_1_method_25_code (4 : Nat) (Option.some Jvm.ClassFile.FieldType.int)) ∈ zbig := zm4 66 rfl rfl
set_option maxRecDepth 10000 in
theorem tw_867 : (Jvm.Cond.methodLink "NameNets" (257 : Nat) ({ cls := "NameNets$SmallNets", name := "countUniversal", desc := "(II)I" } : Jvm.MethodName)) ∈ zbig := zm4 67 rfl rfl
set_option maxRecDepth 10000 in
theorem tw_868 : (Jvm.Cond.instanceMethod ({ cls := "NameNets$SmallNets", name := "countUniversal", desc := "(II)I" } : Jvm.MethodName)) ∈ zbig := zm4 68 rfl rfl
set_option maxRecDepth 10000 in
theorem tw_869 : (Jvm.Cond.selects "NameNets$SmallNets" ({ cls := "NameNets$SmallNets", name := "countUniversal", desc := "(II)I" } : Jvm.MethodName) ({ cls := "NameNets$SmallNets", name := "countUniversal", desc := "(II)I" } : Jvm.MethodName)) ∈ zbig := zm4 69 rfl rfl
set_option maxRecDepth 10000 in
theorem tw_870 : (Jvm.Cond.code ({ cls := "NameNets$SmallNets", name := "countUniversal", desc := "(II)I" } : Jvm.MethodName) prog_9_method_9_code (5 : Nat) (Option.some Jvm.ClassFile.FieldType.int)) ∈ zbig := zm4 70 rfl rfl
set_option maxRecDepth 10000 in
theorem tw_871 : (Jvm.Cond.methodLink "NameNets$SmallNets" (57 : Nat) ({ cls := "NameNets$SmallNets", name := "chooseGroups", desc := "(II)V" } : Jvm.MethodName)) ∈ zbig := zm4 71 rfl rfl
set_option maxRecDepth 10000 in
theorem tw_873 : (Jvm.Cond.instanceMethod ({ cls := "NameNets$SmallNets", name := "chooseGroups", desc := "(II)V" } : Jvm.MethodName)) ∈ zbig := zm4 73 rfl rfl
set_option maxRecDepth 10000 in
theorem tw_874 : (Jvm.Cond.code ({ cls := "NameNets$SmallNets", name := "chooseGroups", desc := "(II)V" } : Jvm.MethodName) prog_9_method_11_code (4 : Nat) (Option.none : Option Jvm.ClassFile.FieldType)) ∈ zbig := zm4 74 rfl rfl
set_option maxRecDepth 10000 in
theorem tw_875 : (Jvm.Cond.methodLink "NameNets$SmallNets" (65 : Nat) ({ cls := "java/lang/Integer", name := "bitCount", desc := "(I)I" } : Jvm.MethodName)) ∈ zbig := zm4 75 rfl rfl
set_option maxRecDepth 10000 in
theorem tw_876 : (Jvm.Cond.methodLink "NameNets$SmallNets" (70 : Nat) ({ cls := "NameNets$SmallNets", name := "pairsWithin", desc := "(I)I" } : Jvm.MethodName)) ∈ zbig := zm4 76 rfl rfl
set_option maxRecDepth 10000 in
theorem tw_877 : (Jvm.Cond.static ({ cls := "NameNets$SmallNets", name := "pairsWithin", desc := "(I)I" } : Jvm.MethodName)) ∈ zbig := zm4 77 rfl rfl
set_option maxRecDepth 10000 in
theorem tw_878 : (Jvm.Cond.code ({ cls := "NameNets$SmallNets", name := "pairsWithin", desc := "(I)I" } : Jvm.MethodName) prog_9_method_12_code (4 : Nat) (Option.some Jvm.ClassFile.FieldType.int)) ∈ zbig := zm4 78 rfl rfl
set_option maxRecDepth 10000 in
theorem tw_879 : (Jvm.Cond.methodLink "NameNets$SmallNets" (61 : Nat) ({ cls := "NameNets$SmallNets", name := "isUniversal", desc := "(II)Z" } : Jvm.MethodName)) ∈ zbig := zm4 79 rfl rfl
set_option maxRecDepth 10000 in
theorem tw_881 : (Jvm.Cond.instanceMethod ({ cls := "NameNets$SmallNets", name := "isUniversal", desc := "(II)Z" } : Jvm.MethodName)) ∈ zbig := zm4 81 rfl rfl
set_option maxRecDepth 10000 in
theorem tw_882 : (Jvm.Cond.code ({ cls := "NameNets$SmallNets", name := "isUniversal", desc := "(II)Z" } : Jvm.MethodName) prog_9_method_13_code (5 : Nat) (Option.some Jvm.ClassFile.FieldType.boolean)) ∈ zbig := zm4 82 rfl rfl
set_option maxRecDepth 10000 in
theorem tw_883 : (Jvm.Cond.methodLink "NameNets" (260 : Nat) ({ cls := "NameNets$SmallNets", name := "leastUniversal", desc := "(II)I" } : Jvm.MethodName)) ∈ zbig := zm4 83 rfl rfl
set_option maxRecDepth 10000 in
theorem tw_884 : (Jvm.Cond.instanceMethod ({ cls := "NameNets$SmallNets", name := "leastUniversal", desc := "(II)I" } : Jvm.MethodName)) ∈ zbig := zm4 84 rfl rfl
set_option maxRecDepth 10000 in
theorem tw_885 : (Jvm.Cond.selects "NameNets$SmallNets" ({ cls := "NameNets$SmallNets", name := "leastUniversal", desc := "(II)I" } : Jvm.MethodName) ({ cls := "NameNets$SmallNets", name := "leastUniversal", desc := "(II)I" } : Jvm.MethodName)) ∈ zbig := zm4 85 rfl rfl
set_option maxRecDepth 10000 in
theorem tw_886 : (Jvm.Cond.code ({ cls := "NameNets$SmallNets", name := "leastUniversal", desc := "(II)I" } : Jvm.MethodName) prog_9_method_10_code (4 : Nat) (Option.some Jvm.ClassFile.FieldType.int)) ∈ zbig := zm4 86 rfl rfl
set_option maxRecDepth 10000 in
theorem tw_887 : (Jvm.Cond.methodLink "NameNetsLaw" (114 : Nat) ({ cls := "NameNets", name := "small", desc := "()I" } : Jvm.MethodName)) ∈ zbig := zm4 87 rfl rfl
set_option maxRecDepth 10000 in
theorem tw_888 : (Jvm.Cond.instanceMethod ({ cls := "NameNets", name := "small", desc := "()I" } : Jvm.MethodName)) ∈ zbig := zm4 88 rfl rfl
set_option maxRecDepth 10000 in
theorem tw_889 : (Jvm.Cond.selects "NameNets" ({ cls := "NameNets", name := "small", desc := "()I" } : Jvm.MethodName) ({ cls := "NameNets", name := "small", desc := "()I" } : Jvm.MethodName)) ∈ zbig := zm4 89 rfl rfl
set_option maxRecDepth 10000 in
theorem tw_890 : (Jvm.Cond.code ({ cls := "NameNets", name := "small", desc := "()I" } : Jvm.MethodName) prog_1_method_26_code (1 : Nat) (Option.some Jvm.ClassFile.FieldType.int)) ∈ zbig := zm4 90 rfl rfl
set_option maxRecDepth 10000 in
theorem tw_891 : (Jvm.Cond.methodLink "NameNets" (263 : Nat) ({ cls := "NameNets$SmallNets", name := "numberOf", desc := "(LNameNets$Net;)I" } : Jvm.MethodName)) ∈ zbig := zm4 91 rfl rfl
set_option maxRecDepth 10000 in
theorem tw_892 : (Jvm.Cond.static ({ cls := "NameNets$SmallNets", name := "numberOf", desc := "(LNameNets$Net;)I" } : Jvm.MethodName)) ∈ zbig := zm4 92 rfl rfl
set_option maxRecDepth 10000 in
theorem tw_893 : (Jvm.Cond.code ({ cls := "NameNets$SmallNets", name := "numberOf", desc := "(LNameNets$Net;)I" } : Jvm.MethodName) prog_9_method_5_code (3 : Nat) (Option.some Jvm.ClassFile.FieldType.int)) ∈ zbig := zm4 93 rfl rfl
set_option maxRecDepth 10000 in
theorem tw_894 : (Jvm.Cond.methodLink "NameNetsLaw" (120 : Nat) ({ cls := "NameNets", name := "feed", desc := "(IJ)I" } : Jvm.MethodName)) ∈ zbig := zm4 94 rfl rfl
set_option maxRecDepth 10000 in
theorem tw_895 : (Jvm.Cond.instanceMethod ({ cls := "NameNets", name := "feed", desc := "(IJ)I" } : Jvm.MethodName)) ∈ zbig := zm4 95 rfl rfl
set_option maxRecDepth 10000 in
theorem tw_896 : (Jvm.Cond.selects "NameNets" ({ cls := "NameNets", name := "feed", desc := "(IJ)I" } : Jvm.MethodName) ({ cls := "NameNets", name := "feed", desc := "(IJ)I" } : Jvm.MethodName)) ∈ zbig := zm4 96 rfl rfl
set_option maxRecDepth 10000 in
theorem tw_897 : (Jvm.Cond.code ({ cls := "NameNets", name := "feed", desc := "(IJ)I" } : Jvm.MethodName) prog_1_method_27_code (4 : Nat) (Option.some Jvm.ClassFile.FieldType.int)) ∈ zbig := zm4 97 rfl rfl
set_option maxRecDepth 10000 in
theorem tw_898 : (Jvm.Cond.methodLink "NameNets" (267 : Nat) ({ cls := "NameNets$Script", name := "append", desc := "(IJ)I" } : Jvm.MethodName)) ∈ zbig := zm4 98 rfl rfl
set_option maxRecDepth 10000 in
theorem tw_899 : (Jvm.Cond.instanceMethod ({ cls := "NameNets$Script", name := "append", desc := "(IJ)I" } : Jvm.MethodName)) ∈ zbig := zm4 99 rfl rfl
set_option maxRecDepth 10000 in
theorem tw_900 : (Jvm.Cond.selects "NameNets$Script" ({ cls := "NameNets$Script", name := "append", desc := "(IJ)I" } : Jvm.MethodName) ({ cls := "NameNets$Script", name := "append", desc := "(IJ)I" } : Jvm.MethodName)) ∈ zbig := zm4 100 rfl rfl
set_option maxRecDepth 10000 in
theorem tw_901 : (Jvm.Cond.code ({ cls := "NameNets$Script", name := "append", desc := "(IJ)I" } : Jvm.MethodName) prog_8_method_2_code (5 : Nat) (Option.some Jvm.ClassFile.FieldType.int)) ∈ zbig := zm4 101 rfl rfl
set_option maxRecDepth 10000 in
theorem tw_902 : (Jvm.Cond.methodLink "NameNetsLaw" (125 : Nat) ({ cls := "NameNets", name := "read", desc := "()I" } : Jvm.MethodName)) ∈ zbig := zm4 102 rfl rfl
set_option maxRecDepth 10000 in
theorem tw_903 : (Jvm.Cond.instanceMethod ({ cls := "NameNets", name := "read", desc := "()I" } : Jvm.MethodName)) ∈ zbig := zm4 103 rfl rfl
set_option maxRecDepth 10000 in
theorem tw_904 : (Jvm.Cond.selects "NameNets" ({ cls := "NameNets", name := "read", desc := "()I" } : Jvm.MethodName) ({ cls := "NameNets", name := "read", desc := "()I" } : Jvm.MethodName)) ∈ zbig := zm4 104 rfl rfl
set_option maxRecDepth 10000 in
theorem tw_905 : (Jvm.Cond.code ({ cls := "NameNets", name := "read", desc := "()I" } : Jvm.MethodName) prog_1_method_28_code (3 : Nat) (Option.some Jvm.ClassFile.FieldType.int)) ∈ zbig := zm4 105 rfl rfl
set_option maxRecDepth 10000 in
theorem tw_906 : (Jvm.Cond.methodLink "NameNets" (271 : Nat) ({ cls := "NameNets$Script", name := "readAll", desc := "()I" } : Jvm.MethodName)) ∈ zbig := zm4 106 rfl rfl
set_option maxRecDepth 10000 in
theorem tw_907 : (Jvm.Cond.instanceMethod ({ cls := "NameNets$Script", name := "readAll", desc := "()I" } : Jvm.MethodName)) ∈ zbig := zm4 107 rfl rfl
set_option maxRecDepth 10000 in
theorem tw_908 : (Jvm.Cond.selects "NameNets$Script" ({ cls := "NameNets$Script", name := "readAll", desc := "()I" } : Jvm.MethodName) ({ cls := "NameNets$Script", name := "readAll", desc := "()I" } : Jvm.MethodName)) ∈ zbig := zm4 108 rfl rfl
set_option maxRecDepth 10000 in
theorem tw_909 : (Jvm.Cond.code ({ cls := "NameNets$Script", name := "readAll", desc := "()I" } : Jvm.MethodName) prog_8_method_3_code (2 : Nat) (Option.some Jvm.ClassFile.FieldType.int)) ∈ zbig := zm4 109 rfl rfl
set_option maxRecDepth 10000 in
theorem tw_910 : (Jvm.Cond.methodLink "NameNets$Script" (54 : Nat) ({ cls := "NameNets$Script", name := "skipBlanks", desc := "()V" } : Jvm.MethodName)) ∈ zbig := zm4 110 rfl rfl
set_option maxRecDepth 10000 in
theorem tw_912 : (Jvm.Cond.instanceMethod ({ cls := "NameNets$Script", name := "skipBlanks", desc := "()V" } : Jvm.MethodName)) ∈ zbig := zm4 112 rfl rfl
set_option maxRecDepth 10000 in
theorem tw_913 : (Jvm.Cond.code ({ cls := "NameNets$Script", name := "skipBlanks", desc := "()V" } : Jvm.MethodName) prog_8_method_5_code (1 : Nat) (Option.none : Option Jvm.ClassFile.FieldType)) ∈ zbig := zm4 113 rfl rfl
set_option maxRecDepth 10000 in
theorem tw_914 : (Jvm.Cond.methodLink "NameNets$Script" (57 : Nat) ({ cls := "NameNets$Script", name := "readQuestion", desc := "()V" } : Jvm.MethodName)) ∈ zbig := zm4 114 rfl rfl
set_option maxRecDepth 10000 in
theorem tw_916 : (Jvm.Cond.instanceMethod ({ cls := "NameNets$Script", name := "readQuestion", desc := "()V" } : Jvm.MethodName)) ∈ zbig := zm4 116 rfl rfl
set_option maxRecDepth 10000 in
theorem tw_917 : (Jvm.Cond.code ({ cls := "NameNets$Script", name := "readQuestion", desc := "()V" } : Jvm.MethodName) prog_8_method_8_code (3 : Nat) (Option.none : Option Jvm.ClassFile.FieldType)) ∈ zbig := zm4 117 rfl rfl
set_option maxRecDepth 10000 in
theorem tw_918 : (Jvm.Cond.methodLink "NameNets$Script" (60 : Nat) ({ cls := "NameNets$Script", name := "readWord", desc := "()I" } : Jvm.MethodName)) ∈ zbig := zm4 118 rfl rfl
set_option maxRecDepth 10000 in
theorem tw_920 : (Jvm.Cond.instanceMethod ({ cls := "NameNets$Script", name := "readWord", desc := "()I" } : Jvm.MethodName)) ∈ zbig := zm4 120 rfl rfl
set_option maxRecDepth 10000 in
theorem tw_921 : (Jvm.Cond.code ({ cls := "NameNets$Script", name := "readWord", desc := "()I" } : Jvm.MethodName) prog_8_method_9_code (3 : Nat) (Option.some Jvm.ClassFile.FieldType.int)) ∈ zbig := zm4 121 rfl rfl
set_option maxRecDepth 10000 in
theorem tw_922 : (Jvm.Cond.methodLink "NameNets$Script" (72 : Nat) ({ cls := "NameNets$Script", name := "isLetter", desc := "(I)Z" } : Jvm.MethodName)) ∈ zbig := zm4 122 rfl rfl
set_option maxRecDepth 10000 in
theorem tw_924 : (Jvm.Cond.instanceMethod ({ cls := "NameNets$Script", name := "isLetter", desc := "(I)Z" } : Jvm.MethodName)) ∈ zbig := zm4 124 rfl rfl
set_option maxRecDepth 10000 in
theorem tw_925 : (Jvm.Cond.code ({ cls := "NameNets$Script", name := "isLetter", desc := "(I)Z" } : Jvm.MethodName) prog_8_method_7_code (2 : Nat) (Option.some Jvm.ClassFile.FieldType.boolean)) ∈ zbig := zm4 125 rfl rfl
set_option maxRecDepth 10000 in
theorem tw_926 : (Jvm.Cond.methodLink "NameNets$Script" (76 : Nat) ({ cls := "NameNets$Script", name := "wordFor", desc := "(I)Ljava/lang/String;" } : Jvm.MethodName)) ∈ zbig := zm4 126 rfl rfl
set_option maxRecDepth 10000 in
theorem tw_927 : (Jvm.Cond.static ({ cls := "NameNets$Script", name := "wordFor", desc := "(I)Ljava/lang/String;" } : Jvm.MethodName)) ∈ zbig := zm4 127 rfl rfl
set_option maxRecDepth 10000 in
theorem tw_928 : (Jvm.Cond.code ({ cls := "NameNets$Script", name := "wordFor", desc := "(I)Ljava/lang/String;" } : Jvm.MethodName) prog_8_method_10_code (1 : Nat) (Option.some (Jvm.ClassFile.FieldType.object "java/lang/String"))) ∈ zbig := zm4 128 rfl rfl
set_option maxRecDepth 10000 in
theorem tw_934 : (Jvm.Cond.methodLink "NameNets$Script" (80 : Nat) ({ cls := "NameNets$Script", name := "isWord", desc := "(Ljava/lang/String;I)Z" } : Jvm.MethodName)) ∈ zbig := zm4 134 rfl rfl
set_option maxRecDepth 10000 in
theorem tw_936 : (Jvm.Cond.instanceMethod ({ cls := "NameNets$Script", name := "isWord", desc := "(Ljava/lang/String;I)Z" } : Jvm.MethodName)) ∈ zbig := zm4 136 rfl rfl
set_option maxRecDepth 10000 in
theorem tw_937 : (Jvm.Cond.code ({ cls := "NameNets$Script", name := "isWord", desc := "(Ljava/lang/String;I)Z" } : Jvm.MethodName) prog_8_method_11_code (4 : Nat) (Option.some Jvm.ClassFile.FieldType.boolean)) ∈ zbig := zm4 137 rfl rfl
set_option maxRecDepth 10000 in
theorem tw_938 : (Jvm.Cond.methodLink "NameNets$Script" (94 : Nat) ({ cls := "java/lang/String", name := "length", desc := "()I" } : Jvm.MethodName)) ∈ zbig := zm4 138 rfl rfl
set_option maxRecDepth 10000 in
theorem tw_939 : (Jvm.Cond.instanceMethod ({ cls := "java/lang/String", name := "length", desc := "()I" } : Jvm.MethodName)) ∈ zbig := zm4 139 rfl rfl
set_option maxRecDepth 10000 in
theorem tw_940 : (Jvm.Cond.selects "java/lang/String" ({ cls := "java/lang/String", name := "length", desc := "()I" } : Jvm.MethodName) ({ cls := "java/lang/String", name := "length", desc := "()I" } : Jvm.MethodName)) ∈ zbig := zm4 140 rfl rfl
set_option maxRecDepth 10000 in
theorem tw_941 : (Jvm.Cond.code ({ cls := "java/lang/String", name := "length", desc := "()I" } : Jvm.MethodName) prog_15_method_54_code (1 : Nat) (Option.some Jvm.ClassFile.FieldType.int)) ∈ zbig := zm4 141 rfl rfl
set_option maxRecDepth 10000 in
theorem tw_942 : (Jvm.Cond.methodLink "java/lang/String" (335 : Nat) ({ cls := "java/lang/String", name := "coder", desc := "()B" } : Jvm.MethodName)) ∈ zbig := zm4 142 rfl rfl
set_option maxRecDepth 10000 in
theorem tw_943 : (Jvm.Cond.instanceMethod ({ cls := "java/lang/String", name := "coder", desc := "()B" } : Jvm.MethodName)) ∈ zbig := zm4 143 rfl rfl
set_option maxRecDepth 10000 in
theorem tw_944 : (Jvm.Cond.selects "java/lang/String" ({ cls := "java/lang/String", name := "coder", desc := "()B" } : Jvm.MethodName) ({ cls := "java/lang/String", name := "coder", desc := "()B" } : Jvm.MethodName)) ∈ zbig := zm4 144 rfl rfl
set_option maxRecDepth 10000 in
theorem tw_945 : (Jvm.Cond.code ({ cls := "java/lang/String", name := "coder", desc := "()B" } : Jvm.MethodName) prog_15_method_152_code (1 : Nat) (Option.some Jvm.ClassFile.FieldType.byte)) ∈ zbig := zm4 145 rfl rfl
set_option maxRecDepth 10000 in
theorem tw_946 : (Jvm.Cond.fieldLink "java/lang/String" (38 : Nat) "java/lang/String" "COMPACT_STRINGS" "Z") ∈ zbig := zm4 146 rfl rfl
set_option maxRecDepth 10000 in
theorem tw_948 : (Jvm.Cond.methodLink "NameNets$Script" (98 : Nat) ({ cls := "java/lang/String", name := "charAt", desc := "(I)C" } : Jvm.MethodName)) ∈ zbig := zm4 148 rfl rfl
set_option maxRecDepth 10000 in
theorem tw_949 : (Jvm.Cond.instanceMethod ({ cls := "java/lang/String", name := "charAt", desc := "(I)C" } : Jvm.MethodName)) ∈ zbig := zm4 149 rfl rfl
set_option maxRecDepth 10000 in
theorem tw_950 : (Jvm.Cond.selects "java/lang/String" ({ cls := "java/lang/String", name := "charAt", desc := "(I)C" } : Jvm.MethodName) ({ cls := "java/lang/String", name := "charAt", desc := "(I)C" } : Jvm.MethodName)) ∈ zbig := zm4 150 rfl rfl
set_option maxRecDepth 10000 in
theorem tw_951 : (Jvm.Cond.code ({ cls := "java/lang/String", name := "charAt", desc := "(I)C" } : Jvm.MethodName) prog_15_method_56_code (2 : Nat) (Option.some Jvm.ClassFile.FieldType.char)) ∈ zbig := zm4 151 rfl rfl
set_option maxRecDepth 10000 in
theorem tw_952 : (Jvm.Cond.methodLink "java/lang/String" (492 : Nat) ({ cls := "java/lang/String", name := "isLatin1", desc := "()Z" } : Jvm.MethodName)) ∈ zbig := zm4 152 rfl rfl
set_option maxRecDepth 10000 in
theorem tw_953 : (Jvm.Cond.instanceMethod ({ cls := "java/lang/String", name := "isLatin1", desc := "()Z" } : Jvm.MethodName)) ∈ zbig := zm4 153 rfl rfl
set_option maxRecDepth 10000 in
theorem tw_954 : (Jvm.Cond.selects "java/lang/String" ({ cls := "java/lang/String", name := "isLatin1", desc := "()Z" } : Jvm.MethodName) ({ cls := "java/lang/String", name := "isLatin1", desc := "()Z" } : Jvm.MethodName)) ∈ zbig := zm4 154 rfl rfl
set_option maxRecDepth 10000 in
theorem tw_955 : (Jvm.Cond.code ({ cls := "java/lang/String", name := "isLatin1", desc := "()Z" } : Jvm.MethodName) prog_15_method_154_code (1 : Nat) (Option.some Jvm.ClassFile.FieldType.boolean)) ∈ zbig := zm4 155 rfl rfl
set_option maxRecDepth 10000 in
theorem tw_956 : (Jvm.Cond.methodLink "java/lang/String" (495 : Nat) ({ cls := "java/lang/StringLatin1", name := "charAt", desc := "([BI)C" } : Jvm.MethodName)) ∈ zbig := zm4 156 rfl rfl
set_option maxRecDepth 10000 in
theorem tw_957 : (Jvm.Cond.static ({ cls := "java/lang/StringLatin1", name := "charAt", desc := "([BI)C" } : Jvm.MethodName)) ∈ zbig := zm4 157 rfl rfl
set_option maxRecDepth 10000 in
theorem tw_958 : (Jvm.Cond.code ({ cls := "java/lang/StringLatin1", name := "charAt", desc := "([BI)C" } : Jvm.MethodName) prog_16_method_2_code (2 : Nat) (Option.some Jvm.ClassFile.FieldType.char)) ∈ zbig := zm4 158 rfl rfl
set_option maxRecDepth 10000 in
theorem tw_959 : (Jvm.Cond.methodLink "java/lang/StringLatin1" (9 : Nat) ({ cls := "java/lang/String", name := "checkIndex", desc := "(II)V" } : Jvm.MethodName)) ∈ zbig := zm4 159 rfl rfl
set_option maxRecDepth 10000 in
theorem tw_960 : (Jvm.Cond.static ({ cls := "java/lang/String", name := "checkIndex", desc := "(II)V" } : Jvm.MethodName)) ∈ zbig := zm4 160 rfl rfl
set_option maxRecDepth 10000 in
theorem tw_961 : (Jvm.Cond.code ({ cls := "java/lang/String", name := "checkIndex", desc := "(II)V" } : Jvm.MethodName) prog_15_method_155_code (2 : Nat) (Option.none : Option Jvm.ClassFile.FieldType)) ∈ zbig := zm4 161 rfl rfl
set_option maxRecDepth 10000 in
theorem tw_962 : (Jvm.Cond.fieldLink "java/lang/String" (1053 : Nat) "jdk/internal/util/Preconditions" "SIOOBE_FORMATTER" "Ljava/util/function/BiFunction;") ∈ zbig := zm4 162 rfl rfl
set_option maxRecDepth 10000 in
theorem tw_964 : (Jvm.Cond.methodLink "java/lang/String" (1059 : Nat) ({ cls := "jdk/internal/util/Preconditions", name := "checkIndex", desc := "(IILjava/util/function/BiFunction;)I" } : Jvm.MethodName)) ∈ zbig := zm4 164 rfl rfl
set_option maxRecDepth 10000 in
theorem tw_965 : (Jvm.Cond.static ({ cls := "jdk/internal/util/Preconditions", name := "checkIndex", desc := "(IILjava/util/function/BiFunction;)I" } : Jvm.MethodName)) ∈ zbig := zm4 165 rfl rfl
set_option maxRecDepth 10000 in
theorem tw_966 : (Jvm.Cond.code ({ cls := "jdk/internal/util/Preconditions", name := "checkIndex", desc := "(IILjava/util/function/BiFunction;)I" } : Jvm.MethodName) prog_20_method_11_code (3 : Nat) (Option.some Jvm.ClassFile.FieldType.int)) ∈ zbig := zm4 166 rfl rfl
set_option maxRecDepth 10000 in
theorem tw_967 : (Jvm.Cond.methodLink "java/lang/String" (498 : Nat) ({ cls := "java/lang/StringUTF16", name := "charAt", desc := "([BI)C" } : Jvm.MethodName)) ∈ zbig := zm4 167 rfl rfl
set_option maxRecDepth 10000 in
theorem tw_969 : (Jvm.Cond.code ({ cls := "java/lang/StringUTF16", name := "charAt", desc := "([BI)C" } : Jvm.MethodName) prog_17_method_83_code (2 : Nat) (Option.some Jvm.ClassFile.FieldType.char)) ∈ zbig := zm4 169 rfl rfl
set_option maxRecDepth 10000 in
theorem tw_970 : (Jvm.Cond.methodLink "java/lang/StringUTF16" (67 : Nat) ({ cls := "java/lang/StringUTF16", name := "checkIndex", desc := "(I[B)V" } : Jvm.MethodName)) ∈ zbig := zm4 170 rfl rfl
set_option maxRecDepth 10000 in
theorem tw_972 : (Jvm.Cond.code ({ cls := "java/lang/StringUTF16", name := "checkIndex", desc := "(I[B)V" } : Jvm.MethodName) prog_17_method_91_code (2 : Nat) (Option.none : Option Jvm.ClassFile.FieldType)) ∈ zbig := zm4 172 rfl rfl
set_option maxRecDepth 10000 in
theorem tw_973 : (Jvm.Cond.methodLink "java/lang/StringUTF16" (48 : Nat) ({ cls := "java/lang/StringUTF16", name := "length", desc := "([B)I" } : Jvm.MethodName)) ∈ zbig := zm4 173 rfl rfl
set_option maxRecDepth 10000 in
theorem tw_975 : (Jvm.Cond.code ({ cls := "java/lang/StringUTF16", name := "length", desc := "([B)I" } : Jvm.MethodName) prog_17_method_6_code (1 : Nat) (Option.some Jvm.ClassFile.FieldType.int)) ∈ zbig := zm4 175 rfl rfl
set_option maxRecDepth 10000 in
theorem tw_976 : (Jvm.Cond.methodLink "java/lang/StringUTF16" (414 : Nat) ({ cls := "java/lang/String", name := "checkIndex", desc := "(II)V" } : Jvm.MethodName)) ∈ zbig := zm4 176 rfl rfl
set_option maxRecDepth 10000 in
theorem tw_977 : (Jvm.Cond.methodLink "java/lang/StringUTF16" (71 : Nat) ({ cls := "java/lang/StringUTF16", name := "getChar", desc := "([BI)C" } : Jvm.MethodName)) ∈ zbig := zm4 177 rfl rfl
set_option maxRecDepth 10000 in
theorem tw_979 : (Jvm.Cond.code ({ cls := "java/lang/StringUTF16", name := "getChar", desc := "([BI)C" } : Jvm.MethodName) prog_17_method_5_code (2 : Nat) (Option.some Jvm.ClassFile.FieldType.char)) ∈ zbig := zm4 179 rfl rfl
set_option maxRecDepth 10000 in
theorem tw_980 : (Jvm.Cond.fieldLink "java/lang/StringUTF16" (44 : Nat) "java/lang/StringUTF16" "$assertionsDisabled" "Z") ∈ zbig := zm4 180 rfl rfl
set_option maxRecDepth 10000 in
theorem tw_982 : (Jvm.Cond.fieldLink "java/lang/StringUTF16" (59 : Nat) "java/lang/StringUTF16" "HI_BYTE_SHIFT" "I") ∈ zbig := zm4 182 rfl rfl
set_option maxRecDepth 10000 in
theorem tw_984 : (Jvm.Cond.fieldLink "java/lang/StringUTF16" (63 : Nat) "java/lang/StringUTF16" "LO_BYTE_SHIFT" "I") ∈ zbig := zm4 184 rfl rfl
set_option maxRecDepth 10000 in
theorem tw_986 : (Jvm.Cond.methodLink "NameNets$Script" (64 : Nat) ({ cls := "NameNets$Script", name := "fail", desc := "(II)V" } : Jvm.MethodName)) ∈ zbig := zm4 186 rfl rfl
set_option maxRecDepth 10000 in
theorem tw_988 : (Jvm.Cond.instanceMethod ({ cls := "NameNets$Script", name := "fail", desc := "(II)V" } : Jvm.MethodName)) ∈ zbig := zm4 188 rfl rfl
set_option maxRecDepth 10000 in
theorem tw_989 : (Jvm.Cond.code ({ cls := "NameNets$Script", name := "fail", desc := "(II)V" } : Jvm.MethodName) prog_8_method_4_code (3 : Nat) (Option.none : Option Jvm.ClassFile.FieldType)) ∈ zbig := zm4 189 rfl rfl
set_option maxRecDepth 10000 in
theorem tw_990 : (Jvm.Cond.methodLink "NameNets$Script" (68 : Nat) ({ cls := "NameNets$Script", name := "readNumbers", desc := "(I)V" } : Jvm.MethodName)) ∈ zbig := zm4 190 rfl rfl
set_option maxRecDepth 10000 in
theorem tw_992 : (Jvm.Cond.instanceMethod ({ cls := "NameNets$Script", name := "readNumbers", desc := "(I)V" } : Jvm.MethodName)) ∈ zbig := zm4 192 rfl rfl
set_option maxRecDepth 10000 in
theorem tw_993 : (Jvm.Cond.code ({ cls := "NameNets$Script", name := "readNumbers", desc := "(I)V" } : Jvm.MethodName) prog_8_method_12_code (3 : Nat) (Option.none : Option Jvm.ClassFile.FieldType)) ∈ zbig := zm4 193 rfl rfl
set_option maxRecDepth 10000 in
theorem tw_994 : (Jvm.Cond.methodLink "NameNets$Script" (102 : Nat) ({ cls := "NameNets$Script", name := "isFigure", desc := "(I)Z" } : Jvm.MethodName)) ∈ zbig := zm4 194 rfl rfl
set_option maxRecDepth 10000 in
theorem tw_996 : (Jvm.Cond.instanceMethod ({ cls := "NameNets$Script", name := "isFigure", desc := "(I)Z" } : Jvm.MethodName)) ∈ zbig := zm4 196 rfl rfl
set_option maxRecDepth 10000 in
theorem tw_997 : (Jvm.Cond.code ({ cls := "NameNets$Script", name := "isFigure", desc := "(I)Z" } : Jvm.MethodName) prog_8_method_6_code (2 : Nat) (Option.some Jvm.ClassFile.FieldType.boolean)) ∈ zbig := zm4 197 rfl rfl
set_option maxRecDepth 10000 in
theorem tw_998 : (Jvm.Cond.methodLink "NameNets$Script" (105 : Nat) ({ cls := "NameNets$Script", name := "readNumber", desc := "(I)V" } : Jvm.MethodName)) ∈ zbig := zm4 198 rfl rfl
set_option maxRecDepth 10000 in
theorem tw_1000 : (Jvm.Cond.instanceMethod ({ cls := "NameNets$Script", name := "readNumber", desc := "(I)V" } : Jvm.MethodName)) ∈ zbig := zm4 200 rfl rfl
set_option maxRecDepth 10000 in
theorem tw_1001 : (Jvm.Cond.code ({ cls := "NameNets$Script", name := "readNumber", desc := "(I)V" } : Jvm.MethodName) prog_8_method_13_code (4 : Nat) (Option.none : Option Jvm.ClassFile.FieldType)) ∈ zbig := zm4 201 rfl rfl
set_option maxRecDepth 10000 in
theorem tw_1002 : (Jvm.Cond.methodLink "NameNets$Script" (108 : Nat) ({ cls := "NameNets$Net", name := "hasPost", desc := "(I)Z" } : Jvm.MethodName)) ∈ zbig := zm4 202 rfl rfl
set_option maxRecDepth 10000 in
theorem tw_1003 : (Jvm.Cond.methodLink "NameNets$Script" (113 : Nat) ({ cls := "NameNets$Net", name := "hasLine", desc := "(I)Z" } : Jvm.MethodName)) ∈ zbig := zm4 203 rfl rfl
set_option maxRecDepth 10000 in
theorem tw_1004 : (Jvm.Cond.methodLink "NameNets$Script" (116 : Nat) ({ cls := "NameNets$Script", name := "keep", desc := "(II)V" } : Jvm.MethodName)) ∈ zbig := zm4 204 rfl rfl
set_option maxRecDepth 10000 in
theorem tw_1006 : (Jvm.Cond.instanceMethod ({ cls := "NameNets$Script", name := "keep", desc := "(II)V" } : Jvm.MethodName)) ∈ zbig := zm4 206 rfl rfl
set_option maxRecDepth 10000 in
theorem tw_1007 : (Jvm.Cond.code ({ cls := "NameNets$Script", name := "keep", desc := "(II)V" } : Jvm.MethodName) prog_8_method_14_code (3 : Nat) (Option.none : Option Jvm.ClassFile.FieldType)) ∈ zbig := zm4 207 rfl rfl
set_option maxRecDepth 10000 in
theorem tw_1008 : (Jvm.Cond.methodLink "NameNets" (292 : Nat) ({ cls := "NameNets", name := "replyTo", desc := "(IIII)I" } : Jvm.MethodName)) ∈ zbig := zm4 208 rfl rfl
set_option maxRecDepth 10000 in
theorem tw_1010 : (Jvm.Cond.instanceMethod ({ cls := "NameNets", name := "replyTo", desc := "(IIII)I" } : Jvm.MethodName)) ∈ zbig := zm4 210 rfl rfl
set_option maxRecDepth 10000 in
theorem tw_1011 : (Jvm.Cond.code ({ cls := "NameNets", name := "replyTo", desc := "(IIII)I" } : Jvm.MethodName) prog_1_method_33_code (5 : Nat) (Option.some Jvm.ClassFile.FieldType.int)) ∈ zbig := zm4 211 rfl rfl
set_option maxRecDepth 10000 in
theorem tw_1012 : (Jvm.Cond.methodLink "NameNetsLaw" (129 : Nat) ({ cls := "NameNets", name := "fault", desc := "()I" } : Jvm.MethodName)) ∈ zbig := zm4 212 rfl rfl
set_option maxRecDepth 10000 in
theorem tw_1013 : (Jvm.Cond.instanceMethod ({ cls := "NameNets", name := "fault", desc := "()I" } : Jvm.MethodName)) ∈ zbig := zm4 213 rfl rfl
set_option maxRecDepth 10000 in
theorem tw_1014 : (Jvm.Cond.selects "NameNets" ({ cls := "NameNets", name := "fault", desc := "()I" } : Jvm.MethodName) ({ cls := "NameNets", name := "fault", desc := "()I" } : Jvm.MethodName)) ∈ zbig := zm4 214 rfl rfl
set_option maxRecDepth 10000 in
theorem tw_1015 : (Jvm.Cond.code ({ cls := "NameNets", name := "fault", desc := "()I" } : Jvm.MethodName) prog_1_method_29_code (1 : Nat) (Option.some Jvm.ClassFile.FieldType.int)) ∈ zbig := zm4 215 rfl rfl
set_option maxRecDepth 10000 in
theorem tw_1016 : (Jvm.Cond.methodLink "NameNetsLaw" (133 : Nat) ({ cls := "NameNets", name := "said", desc := "(I)I" } : Jvm.MethodName)) ∈ zbig := zm4 216 rfl rfl
set_option maxRecDepth 10000 in
theorem tw_1017 : (Jvm.Cond.instanceMethod ({ cls := "NameNets", name := "said", desc := "(I)I" } : Jvm.MethodName)) ∈ zbig := zm4 217 rfl rfl
set_option maxRecDepth 10000 in
theorem tw_1018 : (Jvm.Cond.selects "NameNets" ({ cls := "NameNets", name := "said", desc := "(I)I" } : Jvm.MethodName) ({ cls := "NameNets", name := "said", desc := "(I)I" } : Jvm.MethodName)) ∈ zbig := zm4 218 rfl rfl
set_option maxRecDepth 10000 in
theorem tw_1019 : (Jvm.Cond.code ({ cls := "NameNets", name := "said", desc := "(I)I" } : Jvm.MethodName) prog_1_method_30_code (2 : Nat) (Option.some Jvm.ClassFile.FieldType.int)) ∈ zbig := zm4 219 rfl rfl
set_option maxRecDepth 10000 in
theorem tw_1020 : (Jvm.Cond.classLink "NameNetsLaw" (10 : Nat) "NameNetsModel") ∈ zbig := zm4 220 rfl rfl
set_option maxRecDepth 10000 in
theorem tw_1021 : (Jvm.Cond.instantiable "NameNetsModel" (40 : Nat)) ∈ zbig := zm4 221 rfl rfl
set_option maxRecDepth 10000 in
theorem tw_1022 : (Jvm.Cond.methodLink "NameNetsLaw" (12 : Nat) ({ cls := "NameNetsModel", name := "<init>", desc := "()V" } : Jvm.MethodName)) ∈ zbig := zm4 222 rfl rfl
set_option maxRecDepth 10000 in
theorem tw_1023 : (Jvm.Cond.instanceMethod ({ cls := "NameNetsModel", name := "<init>", desc := "()V" } : Jvm.MethodName)) ∈ zbig := zm4 223 rfl rfl
set_option maxRecDepth 10000 in
theorem tw_1024 : (Jvm.Cond.code ({ cls := "NameNetsModel", name := "<init>", desc := "()V" } : Jvm.MethodName) prog_12_method_1_code (1 : Nat) (Option.none : Option Jvm.ClassFile.FieldType)) ∈ zbig := zm4 224 rfl rfl
set_option maxRecDepth 10000 in
theorem tw_1025 : (Jvm.Cond.methodLink "NameNetsModel" (1 : Nat) ({ cls := "java/lang/Object", name := "<init>", desc := "()V" } : Jvm.MethodName)) ∈ zbig := zm4 225 rfl rfl
set_option maxRecDepth 10000 in
theorem tw_1026 : (Jvm.Cond.fieldLink "NameNetsModel" (99 : Nat) "NameNetsModel" "posts" "I") ∈ zbig := zm4 226 rfl rfl
set_option maxRecDepth 10000 in
theorem tw_1027 : (Jvm.Cond.fieldLink "NameNetsModel" (106 : Nat) "NameNetsModel" "lineMany" "I") ∈ zbig := zm4 227 rfl rfl
set_option maxRecDepth 10000 in
theorem tw_1028 : (Jvm.Cond.fieldLink "NameNetsModel" (7 : Nat) "NameNetsModel" "endA" "[I") ∈ zbig := zm4 228 rfl rfl
set_option maxRecDepth 10000 in
theorem tw_1029 : (Jvm.Cond.fieldLink "NameNetsModel" (13 : Nat) "NameNetsModel" "endB" "[I") ∈ zbig := zm4 229 rfl rfl
set_option maxRecDepth 10000 in
theorem tw_1030 : (Jvm.Cond.fieldLink "NameNetsModel" (16 : Nat) "NameNetsModel" "above" "[I") ∈ zbig := zm4 230 rfl rfl
set_option maxRecDepth 10000 in
theorem tw_1031 : (Jvm.Cond.fieldLink "NameNetsModel" (19 : Nat) "NameNetsModel" "rootOf" "[I") ∈ zbig := zm4 231 rfl rfl
set_option maxRecDepth 10000 in
theorem tw_1032 : (Jvm.Cond.fieldLink "NameNetsModel" (22 : Nat) "NameNetsModel" "deep" "[I") ∈ zbig := zm4 232 rfl rfl
set_option maxRecDepth 10000 in
theorem tw_1033 : (Jvm.Cond.fieldLink "NameNetsModel" (25 : Nat) "NameNetsModel" "upLine" "[I") ∈ zbig := zm4 233 rfl rfl
set_option maxRecDepth 10000 in
theorem tw_1034 : (Jvm.Cond.fieldLink "NameNetsModel" (28 : Nat) "NameNetsModel" "queue" "[I") ∈ zbig := zm4 234 rfl rfl
set_option maxRecDepth 10000 in
theorem tw_1035 : (Jvm.Cond.fieldLink "NameNetsModel" (126 : Nat) "NameNetsModel" "roots" "I") ∈ zbig := zm4 235 rfl rfl
set_option maxRecDepth 10000 in
theorem tw_1036 : (Jvm.Cond.fieldLink "NameNetsModel" (129 : Nat) "NameNetsModel" "treeLines" "I") ∈ zbig := zm4 236 rfl rfl
set_option maxRecDepth 10000 in
theorem tw_1037 : (Jvm.Cond.fieldLink "NameNetsModel" (31 : Nat) "NameNetsModel" "enter" "[I") ∈ zbig := zm4 237 rfl rfl
set_option maxRecDepth 10000 in
theorem tw_1038 : (Jvm.Cond.fieldLink "NameNetsModel" (34 : Nat) "NameNetsModel" "leave" "[I") ∈ zbig := zm4 238 rfl rfl
set_option maxRecDepth 10000 in
theorem tw_1039 : (Jvm.Cond.fieldLink "NameNetsModel" (37 : Nat) "NameNetsModel" "turn" "[I") ∈ zbig := zm4 239 rfl rfl
set_option maxRecDepth 10000 in
theorem tw_1040 : (Jvm.Cond.fieldLink "NameNetsModel" (40 : Nat) "NameNetsModel" "rank" "[I") ∈ zbig := zm5 0 rfl rfl
set_option maxRecDepth 10000 in
theorem tw_1041 : (Jvm.Cond.fieldLink "NameNetsModel" (43 : Nat) "NameNetsModel" "size" "[I") ∈ zbig := zm5 1 rfl rfl
set_option maxRecDepth 10000 in
theorem tw_1042 : (Jvm.Cond.fieldLink "NameNetsModel" (46 : Nat) "NameNetsModel" "name" "[I") ∈ zbig := zm5 2 rfl rfl
set_option maxRecDepth 10000 in
theorem tw_1043 : (Jvm.Cond.fieldLink "NameNetsModel" (49 : Nat) "NameNetsModel" "stack" "[I") ∈ zbig := zm5 3 rfl rfl
set_option maxRecDepth 10000 in
theorem tw_1044 : (Jvm.Cond.fieldLink "NameNetsModel" (52 : Nat) "NameNetsModel" "way" "[I") ∈ zbig := zm5 4 rfl rfl
set_option maxRecDepth 10000 in
theorem tw_1045 : (Jvm.Cond.fieldLink "NameNetsModel" (55 : Nat) "NameNetsModel" "failing" "[I") ∈ zbig := zm5 5 rfl rfl
set_option maxRecDepth 10000 in
theorem tw_1046 : (Jvm.Cond.fieldLink "NameNetsModel" (58 : Nat) "NameNetsModel" "isLearned" "[Z") ∈ zbig := zm5 6 rfl rfl
set_option maxRecDepth 10000 in
theorem tw_1047 : (Jvm.Cond.fieldLink "NameNetsModel" (62 : Nat) "NameNetsModel" "bookPosts" "[I") ∈ zbig := zm5 7 rfl rfl
set_option maxRecDepth 10000 in
theorem tw_1048 : (Jvm.Cond.fieldLink "NameNetsModel" (65 : Nat) "NameNetsModel" "bookSize" "[I") ∈ zbig := zm5 8 rfl rfl
set_option maxRecDepth 10000 in
theorem tw_1049 : (Jvm.Cond.fieldLink "NameNetsModel" (68 : Nat) "NameNetsModel" "bookName" "[I") ∈ zbig := zm5 9 rfl rfl
set_option maxRecDepth 10000 in
theorem tw_1050 : (Jvm.Cond.fieldLink "NameNetsModel" (71 : Nat) "NameNetsModel" "check" "[I") ∈ zbig := zm5 10 rfl rfl
set_option maxRecDepth 10000 in
theorem tw_1051 : (Jvm.Cond.fieldLink "NameNetsModel" (74 : Nat) "NameNetsModel" "gone" "[I") ∈ zbig := zm5 11 rfl rfl
set_option maxRecDepth 10000 in
theorem tw_1052 : (Jvm.Cond.fieldLink "NameNetsModel" (77 : Nat) "NameNetsModel" "by" "[I") ∈ zbig := zm5 12 rfl rfl
set_option maxRecDepth 10000 in
theorem tw_1053 : (Jvm.Cond.fieldLink "NameNetsModel" (80 : Nat) "NameNetsModel" "pick" "[I") ∈ zbig := zm5 13 rfl rfl
set_option maxRecDepth 10000 in
theorem tw_1054 : (Jvm.Cond.fieldLink "NameNetsModel" (83 : Nat) "NameNetsModel" "text" "[I") ∈ zbig := zm5 14 rfl rfl
set_option maxRecDepth 10000 in
theorem tw_1055 : (Jvm.Cond.fieldLink "NameNetsModel" (174 : Nat) "NameNetsModel" "textSize" "I") ∈ zbig := zm5 15 rfl rfl
set_option maxRecDepth 10000 in
theorem tw_1056 : (Jvm.Cond.fieldLink "NameNetsModel" (263 : Nat) "NameNetsModel" "at" "I") ∈ zbig := zm5 16 rfl rfl
set_option maxRecDepth 10000 in
theorem tw_1057 : (Jvm.Cond.fieldLink "NameNetsModel" (266 : Nat) "NameNetsModel" "faultOf" "I") ∈ zbig := zm5 17 rfl rfl
set_option maxRecDepth 10000 in
theorem tw_1058 : (Jvm.Cond.fieldLink "NameNetsModel" (86 : Nat) "NameNetsModel" "place" "I") ∈ zbig := zm5 18 rfl rfl
set_option maxRecDepth 10000 in
theorem tw_1059 : (Jvm.Cond.fieldLink "NameNetsModel" (272 : Nat) "NameNetsModel" "from" "I") ∈ zbig := zm5 19 rfl rfl
set_option maxRecDepth 10000 in
theorem tw_1060 : (Jvm.Cond.fieldLink "NameNetsModel" (269 : Nat) "NameNetsModel" "letters" "I") ∈ zbig := zm5 20 rfl rfl
set_option maxRecDepth 10000 in
theorem tw_1061 : (Jvm.Cond.fieldLink "NameNetsModel" (177 : Nat) "NameNetsModel" "answers" "I") ∈ zbig := zm5 21 rfl rfl
set_option maxRecDepth 10000 in
theorem tw_1062 : (Jvm.Cond.fieldLink "NameNetsModel" (90 : Nat) "NameNetsModel" "said" "[I") ∈ zbig := zm5 22 rfl rfl
set_option maxRecDepth 10000 in
theorem tw_1063 : (Jvm.Cond.fieldLink "NameNetsModel" (93 : Nat) "NameNetsModel" "draft" "[I") ∈ zbig := zm5 23 rfl rfl
set_option maxRecDepth 10000 in
theorem tw_1064 : (Jvm.Cond.fieldLink "NameNetsModel" (307 : Nat) "NameNetsModel" "drafts" "I") ∈ zbig := zm5 24 rfl rfl
set_option maxRecDepth 10000 in
theorem tw_1065 : (Jvm.Cond.fieldLink "NameNetsModel" (96 : Nat) "NameNetsModel" "asked" "[I") ∈ zbig := zm5 25 rfl rfl
set_option maxRecDepth 10000 in
theorem tw_1147 : (Jvm.Cond.arrayClass Jvm.ClassFile.FieldType.boolean) ∈ zbig := zm5 107 rfl rfl
set_option maxRecDepth 10000 in
theorem tw_1148 : (Jvm.Cond.methodLink "NameNetsLaw" (17 : Nat) ({ cls := "NameNetsModel", name := "net", desc := "(I)I" } : Jvm.MethodName)) ∈ zbig := zm5 108 rfl rfl
set_option maxRecDepth 10000 in
theorem tw_1149 : (Jvm.Cond.instanceMethod ({ cls := "NameNetsModel", name := "net", desc := "(I)I" } : Jvm.MethodName)) ∈ zbig := zm5 109 rfl rfl
set_option maxRecDepth 10000 in
theorem tw_1150 : (Jvm.Cond.selects "NameNetsModel" ({ cls := "NameNetsModel", name := "net", desc := "(I)I" } : Jvm.MethodName) ({ cls := "NameNetsModel", name := "net", desc := "(I)I" } : Jvm.MethodName)) ∈ zbig := zm5 110 rfl rfl
set_option maxRecDepth 10000 in
theorem tw_1151 : (Jvm.Cond.code ({ cls := "NameNetsModel", name := "net", desc := "(I)I" } : Jvm.MethodName) prog_12_method_10_code (2 : Nat) (Option.some Jvm.ClassFile.FieldType.int)) ∈ zbig := zm5 111 rfl rfl
set_option maxRecDepth 10000 in
theorem tw_1152 : (Jvm.Cond.constantLong "NameNetsModel" (113 : Nat) (12 : Int64)) ∈ zbig := zm5 112 rfl rfl
set_option maxRecDepth 10000 in
theorem tw_1153 : (Jvm.Cond.methodLink "NameNetsModel" (102 : Nat) ({ cls := "NameNetsModel", name := "in", desc := "(JJJ)Z" } : Jvm.MethodName)) ∈ zbig := zm5 113 rfl rfl
set_option maxRecDepth 10000 in
theorem tw_1154 : (Jvm.Cond.static ({ cls := "NameNetsModel", name := "in", desc := "(JJJ)Z" } : Jvm.MethodName)) ∈ zbig := zm5 114 rfl rfl
set_option maxRecDepth 10000 in
theorem tw_1155 : (Jvm.Cond.code ({ cls := "NameNetsModel", name := "in", desc := "(JJJ)Z" } : Jvm.MethodName) prog_12_method_3_code (6 : Nat) (Option.some Jvm.ClassFile.FieldType.boolean)) ∈ zbig := zm5 115 rfl rfl
set_option maxRecDepth 10000 in
theorem tw_1156 : (Jvm.Cond.methodLink "NameNetsLaw" (22 : Nat) ({ cls := "NameNetsModel", name := "post", desc := "()I" } : Jvm.MethodName)) ∈ zbig := zm5 116 rfl rfl
set_option maxRecDepth 10000 in
theorem tw_1157 : (Jvm.Cond.instanceMethod ({ cls := "NameNetsModel", name := "post", desc := "()I" } : Jvm.MethodName)) ∈ zbig := zm5 117 rfl rfl
set_option maxRecDepth 10000 in
theorem tw_1158 : (Jvm.Cond.selects "NameNetsModel" ({ cls := "NameNetsModel", name := "post", desc := "()I" } : Jvm.MethodName) ({ cls := "NameNetsModel", name := "post", desc := "()I" } : Jvm.MethodName)) ∈ zbig := zm5 118 rfl rfl
set_option maxRecDepth 10000 in
theorem tw_1159 : (Jvm.Cond.code ({ cls := "NameNetsModel", name := "post", desc := "()I" } : Jvm.MethodName) prog_12_method_11_code (1 : Nat) (Option.some Jvm.ClassFile.FieldType.int)) ∈ zbig := zm5 119 rfl rfl
set_option maxRecDepth 10000 in
theorem tw_1160 : (Jvm.Cond.methodLink "NameNetsLaw" (27 : Nat) ({ cls := "NameNetsModel", name := "line", desc := "(II)I" } : Jvm.MethodName)) ∈ zbig := zm5 120 rfl rfl
set_option maxRecDepth 10000 in
theorem tw_1161 : (Jvm.Cond.instanceMethod ({ cls := "NameNetsModel", name := "line", desc := "(II)I" } : Jvm.MethodName)) ∈ zbig := zm5 121 rfl rfl
set_option maxRecDepth 10000 in
theorem tw_1162 : (Jvm.Cond.selects "NameNetsModel" ({ cls := "NameNetsModel", name := "line", desc := "(II)I" } : Jvm.MethodName) ({ cls := "NameNetsModel", name := "line", desc := "(II)I" } : Jvm.MethodName)) ∈ zbig := zm5 122 rfl rfl
set_option maxRecDepth 10000 in
theorem tw_1163 : (Jvm.Cond.code ({ cls := "NameNetsModel", name := "line", desc := "(II)I" } : Jvm.MethodName) prog_12_method_12_code (3 : Nat) (Option.some Jvm.ClassFile.FieldType.int)) ∈ zbig := zm5 123 rfl rfl
set_option maxRecDepth 10000 in
theorem tw_1164 : (Jvm.Cond.methodLink "NameNetsModel" (115 : Nat) ({ cls := "NameNetsModel", name := "noPost", desc := "(I)Z" } : Jvm.MethodName)) ∈ zbig := zm5 124 rfl rfl
set_option maxRecDepth 10000 in
theorem tw_1166 : (Jvm.Cond.instanceMethod ({ cls := "NameNetsModel", name := "noPost", desc := "(I)Z" } : Jvm.MethodName)) ∈ zbig := zm5 126 rfl rfl
set_option maxRecDepth 10000 in
theorem tw_1167 : (Jvm.Cond.code ({ cls := "NameNetsModel", name := "noPost", desc := "(I)Z" } : Jvm.MethodName) prog_12_method_6_code (2 : Nat) (Option.some Jvm.ClassFile.FieldType.boolean)) ∈ zbig := zm5 127 rfl rfl
set_option maxRecDepth 10000 in
theorem tw_1168 : (Jvm.Cond.methodLink "NameNetsModel" (119 : Nat) ({ cls := "NameNetsModel", name := "lineOf", desc := "(II)I" } : Jvm.MethodName)) ∈ zbig := zm5 128 rfl rfl
set_option maxRecDepth 10000 in
theorem tw_1170 : (Jvm.Cond.instanceMethod ({ cls := "NameNetsModel", name := "lineOf", desc := "(II)I" } : Jvm.MethodName)) ∈ zbig := zm5 130 rfl rfl
set_option maxRecDepth 10000 in
theorem tw_1171 : (Jvm.Cond.code ({ cls := "NameNetsModel", name := "lineOf", desc := "(II)I" } : Jvm.MethodName) prog_12_method_8_code (4 : Nat) (Option.some Jvm.ClassFile.FieldType.int)) ∈ zbig := zm5 131 rfl rfl
set_option maxRecDepth 10000 in
theorem tw_1172 : (Jvm.Cond.methodLink "NameNetsLaw" (31 : Nat) ({ cls := "NameNetsModel", name := "strike", desc := "(I)I" } : Jvm.MethodName)) ∈ zbig := zm5 132 rfl rfl
set_option maxRecDepth 10000 in
theorem tw_1173 : (Jvm.Cond.instanceMethod ({ cls := "NameNetsModel", name := "strike", desc := "(I)I" } : Jvm.MethodName)) ∈ zbig := zm5 133 rfl rfl
set_option maxRecDepth 10000 in
theorem tw_1174 : (Jvm.Cond.selects "NameNetsModel" ({ cls := "NameNetsModel", name := "strike", desc := "(I)I" } : Jvm.MethodName) ({ cls := "NameNetsModel", name := "strike", desc := "(I)I" } : Jvm.MethodName)) ∈ zbig := zm5 134 rfl rfl
set_option maxRecDepth 10000 in
theorem tw_1175 : (Jvm.Cond.code ({ cls := "NameNetsModel", name := "strike", desc := "(I)I" } : Jvm.MethodName) prog_12_method_13_code (3 : Nat) (Option.some Jvm.ClassFile.FieldType.int)) ∈ zbig := zm5 135 rfl rfl
set_option maxRecDepth 10000 in
theorem tw_1176 : (Jvm.Cond.methodLink "NameNetsModel" (123 : Nat) ({ cls := "NameNetsModel", name := "noLine", desc := "(I)Z" } : Jvm.MethodName)) ∈ zbig := zm5 136 rfl rfl
set_option maxRecDepth 10000 in
theorem tw_1178 : (Jvm.Cond.instanceMethod ({ cls := "NameNetsModel", name := "noLine", desc := "(I)Z" } : Jvm.MethodName)) ∈ zbig := zm5 138 rfl rfl
set_option maxRecDepth 10000 in
theorem tw_1179 : (Jvm.Cond.code ({ cls := "NameNetsModel", name := "noLine", desc := "(I)Z" } : Jvm.MethodName) prog_12_method_7_code (2 : Nat) (Option.some Jvm.ClassFile.FieldType.boolean)) ∈ zbig := zm5 139 rfl rfl
set_option maxRecDepth 10000 in
theorem tw_1180 : (Jvm.Cond.methodLink "NameNetsLaw" (35 : Nat) ({ cls := "NameNetsModel", name := "count", desc := "(I)I" } : Jvm.MethodName)) ∈ zbig := zm5 140 rfl rfl
set_option maxRecDepth 10000 in
theorem tw_1181 : (Jvm.Cond.instanceMethod ({ cls := "NameNetsModel", name := "count", desc := "(I)I" } : Jvm.MethodName)) ∈ zbig := zm5 141 rfl rfl
set_option maxRecDepth 10000 in
theorem tw_1182 : (Jvm.Cond.selects "NameNetsModel" ({ cls := "NameNetsModel", name := "count", desc := "(I)I" } : Jvm.MethodName) ({ cls := "NameNetsModel", name := "count", desc := "(I)I" } : Jvm.MethodName)) ∈ zbig := zm5 142 rfl rfl
set_option maxRecDepth 10000 in
theorem tw_1183 : (Jvm.Cond.code ({ cls := "NameNetsModel", name := "count", desc := "(I)I" } : Jvm.MethodName) prog_12_method_28_code (4 : Nat) (Option.some Jvm.ClassFile.FieldType.int)) ∈ zbig := zm5 143 rfl rfl
set_option maxRecDepth 10000 in
theorem tw_1184 : (Jvm.Cond.methodLink "NameNetsModel" (159 : Nat) ({ cls := "NameNetsModel", name := "findTree", desc := "()V" } : Jvm.MethodName)) ∈ zbig := zm5 144 rfl rfl
set_option maxRecDepth 10000 in
theorem tw_1186 : (Jvm.Cond.instanceMethod ({ cls := "NameNetsModel", name := "findTree", desc := "()V" } : Jvm.MethodName)) ∈ zbig := zm5 146 rfl rfl
set_option maxRecDepth 10000 in
theorem tw_1187 : (Jvm.Cond.code ({ cls := "NameNetsModel", name := "findTree", desc := "()V" } : Jvm.MethodName) prog_12_method_14_code (2 : Nat) (Option.none : Option Jvm.ClassFile.FieldType)) ∈ zbig := zm5 147 rfl rfl
set_option maxRecDepth 10000 in
theorem tw_1188 : (Jvm.Cond.methodLink "NameNetsModel" (132 : Nat) ({ cls := "NameNetsModel", name := "grow", desc := "(I)V" } : Jvm.MethodName)) ∈ zbig := zm5 148 rfl rfl
set_option maxRecDepth 10000 in
theorem tw_1190 : (Jvm.Cond.instanceMethod ({ cls := "NameNetsModel", name := "grow", desc := "(I)V" } : Jvm.MethodName)) ∈ zbig := zm5 150 rfl rfl
set_option maxRecDepth 10000 in
theorem tw_1191 : (Jvm.Cond.code ({ cls := "NameNetsModel", name := "grow", desc := "(I)V" } : Jvm.MethodName) prog_12_method_15_code (7 : Nat) (Option.none : Option Jvm.ClassFile.FieldType)) ∈ zbig := zm5 151 rfl rfl
set_option maxRecDepth 10000 in
theorem tw_1192 : (Jvm.Cond.methodLink "NameNetsModel" (139 : Nat) ({ cls := "NameNetsModel", name := "degree", desc := "(I)I" } : Jvm.MethodName)) ∈ zbig := zm5 152 rfl rfl
set_option maxRecDepth 10000 in
theorem tw_1194 : (Jvm.Cond.instanceMethod ({ cls := "NameNetsModel", name := "degree", desc := "(I)I" } : Jvm.MethodName)) ∈ zbig := zm5 154 rfl rfl
set_option maxRecDepth 10000 in
theorem tw_1195 : (Jvm.Cond.code ({ cls := "NameNetsModel", name := "degree", desc := "(I)I" } : Jvm.MethodName) prog_12_method_9_code (4 : Nat) (Option.some Jvm.ClassFile.FieldType.int)) ∈ zbig := zm5 155 rfl rfl
set_option maxRecDepth 10000 in
theorem tw_1196 : (Jvm.Cond.methodLink "NameNetsModel" (109 : Nat) ({ cls := "NameNetsModel", name := "bit", desc := "(Z)I" } : Jvm.MethodName)) ∈ zbig := zm5 156 rfl rfl
set_option maxRecDepth 10000 in
theorem tw_1197 : (Jvm.Cond.static ({ cls := "NameNetsModel", name := "bit", desc := "(Z)I" } : Jvm.MethodName)) ∈ zbig := zm5 157 rfl rfl
set_option maxRecDepth 10000 in
theorem tw_1198 : (Jvm.Cond.code ({ cls := "NameNetsModel", name := "bit", desc := "(Z)I" } : Jvm.MethodName) prog_12_method_4_code (1 : Nat) (Option.some Jvm.ClassFile.FieldType.int)) ∈ zbig := zm5 158 rfl rfl
set_option maxRecDepth 10000 in
theorem tw_1199 : (Jvm.Cond.methodLink "NameNetsLaw" (39 : Nat) ({ cls := "NameNetsModel", name := "told", desc := "(II)I" } : Jvm.MethodName)) ∈ zbig := zm5 159 rfl rfl
set_option maxRecDepth 10000 in
theorem tw_1200 : (Jvm.Cond.instanceMethod ({ cls := "NameNetsModel", name := "told", desc := "(II)I" } : Jvm.MethodName)) ∈ zbig := zm5 160 rfl rfl
set_option maxRecDepth 10000 in
theorem tw_1201 : (Jvm.Cond.selects "NameNetsModel" ({ cls := "NameNetsModel", name := "told", desc := "(II)I" } : Jvm.MethodName) ({ cls := "NameNetsModel", name := "told", desc := "(II)I" } : Jvm.MethodName)) ∈ zbig := zm5 161 rfl rfl
set_option maxRecDepth 10000 in
theorem tw_1202 : (Jvm.Cond.code ({ cls := "NameNetsModel", name := "told", desc := "(II)I" } : Jvm.MethodName) prog_12_method_29_code (3 : Nat) (Option.some Jvm.ClassFile.FieldType.int)) ∈ zbig := zm5 162 rfl rfl
set_option maxRecDepth 10000 in
theorem tw_1203 : (Jvm.Cond.methodLink "NameNetsModel" (156 : Nat) ({ cls := "NameNetsModel", name := "findTurns", desc := "()V" } : Jvm.MethodName)) ∈ zbig := zm5 163 rfl rfl
set_option maxRecDepth 10000 in
theorem tw_1205 : (Jvm.Cond.instanceMethod ({ cls := "NameNetsModel", name := "findTurns", desc := "()V" } : Jvm.MethodName)) ∈ zbig := zm5 165 rfl rfl
set_option maxRecDepth 10000 in
theorem tw_1206 : (Jvm.Cond.code ({ cls := "NameNetsModel", name := "findTurns", desc := "()V" } : Jvm.MethodName) prog_12_method_20_code (7 : Nat) (Option.none : Option Jvm.ClassFile.FieldType)) ∈ zbig := zm5 166 rfl rfl
set_option maxRecDepth 10000 in
theorem tw_1207 : (Jvm.Cond.methodLink "NameNetsModel" (150 : Nat) ({ cls := "NameNetsModel", name := "findRanks", desc := "()V" } : Jvm.MethodName)) ∈ zbig := zm5 167 rfl rfl
set_option maxRecDepth 10000 in
theorem tw_1209 : (Jvm.Cond.instanceMethod ({ cls := "NameNetsModel", name := "findRanks", desc := "()V" } : Jvm.MethodName)) ∈ zbig := zm5 169 rfl rfl
set_option maxRecDepth 10000 in
theorem tw_1210 : (Jvm.Cond.code ({ cls := "NameNetsModel", name := "findRanks", desc := "()V" } : Jvm.MethodName) prog_12_method_21_code (4 : Nat) (Option.none : Option Jvm.ClassFile.FieldType)) ∈ zbig := zm5 170 rfl rfl
set_option maxRecDepth 10000 in
theorem tw_1211 : (Jvm.Cond.methodLink "NameNetsLaw" (43 : Nat) ({ cls := "NameNetsModel", name := "lines", desc := "(II)I" } : Jvm.MethodName)) ∈ zbig := zm5 171 rfl rfl
set_option maxRecDepth 10000 in
theorem tw_1212 : (Jvm.Cond.instanceMethod ({ cls := "NameNetsModel", name := "lines", desc := "(II)I" } : Jvm.MethodName)) ∈ zbig := zm5 172 rfl rfl
set_option maxRecDepth 10000 in
theorem tw_1213 : (Jvm.Cond.selects "NameNetsModel" ({ cls := "NameNetsModel", name := "lines", desc := "(II)I" } : Jvm.MethodName) ({ cls := "NameNetsModel", name := "lines", desc := "(II)I" } : Jvm.MethodName)) ∈ zbig := zm5 173 rfl rfl
set_option maxRecDepth 10000 in
theorem tw_1214 : (Jvm.Cond.code ({ cls := "NameNetsModel", name := "lines", desc := "(II)I" } : Jvm.MethodName) prog_12_method_31_code (3 : Nat) (Option.some Jvm.ClassFile.FieldType.int)) ∈ zbig := zm5 174 rfl rfl
set_option maxRecDepth 10000 in
theorem tw_1215 : (Jvm.Cond.methodLink "NameNetsModel" (180 : Nat) ({ cls := "NameNetsModel", name := "isTreeLine", desc := "(I)Z" } : Jvm.MethodName)) ∈ zbig := zm5 175 rfl rfl
set_option maxRecDepth 10000 in
theorem tw_1217 : (Jvm.Cond.instanceMethod ({ cls := "NameNetsModel", name := "isTreeLine", desc := "(I)Z" } : Jvm.MethodName)) ∈ zbig := zm5 177 rfl rfl
set_option maxRecDepth 10000 in
theorem tw_1218 : (Jvm.Cond.code ({ cls := "NameNetsModel", name := "isTreeLine", desc := "(I)Z" } : Jvm.MethodName) prog_12_method_16_code (4 : Nat) (Option.some Jvm.ClassFile.FieldType.boolean)) ∈ zbig := zm5 178 rfl rfl
set_option maxRecDepth 10000 in
theorem tw_1219 : (Jvm.Cond.methodLink "NameNetsModel" (183 : Nat) ({ cls := "NameNetsModel", name := "lineName", desc := "(I)I" } : Jvm.MethodName)) ∈ zbig := zm5 179 rfl rfl
set_option maxRecDepth 10000 in
theorem tw_1221 : (Jvm.Cond.instanceMethod ({ cls := "NameNetsModel", name := "lineName", desc := "(I)I" } : Jvm.MethodName)) ∈ zbig := zm5 181 rfl rfl
set_option maxRecDepth 10000 in
theorem tw_1222 : (Jvm.Cond.code ({ cls := "NameNetsModel", name := "lineName", desc := "(I)I" } : Jvm.MethodName) prog_12_method_30_code (5 : Nat) (Option.some Jvm.ClassFile.FieldType.int)) ∈ zbig := zm5 182 rfl rfl
set_option maxRecDepth 10000 in
theorem tw_1223 : (Jvm.Cond.methodLink "NameNetsModel" (171 : Nat) ({ cls := "NameNetsModel", name := "wayUp", desc := "(I)I" } : Jvm.MethodName)) ∈ zbig := zm5 183 rfl rfl
set_option maxRecDepth 10000 in
theorem tw_1225 : (Jvm.Cond.instanceMethod ({ cls := "NameNetsModel", name := "wayUp", desc := "(I)I" } : Jvm.MethodName)) ∈ zbig := zm5 185 rfl rfl
set_option maxRecDepth 10000 in
theorem tw_1226 : (Jvm.Cond.code ({ cls := "NameNetsModel", name := "wayUp", desc := "(I)I" } : Jvm.MethodName) prog_12_method_17_code (4 : Nat) (Option.some Jvm.ClassFile.FieldType.int)) ∈ zbig := zm5 186 rfl rfl
set_option maxRecDepth 10000 in
theorem tw_1227 : (Jvm.Cond.methodLink "NameNetsLaw" (48 : Nat) ({ cls := "NameNetsModel", name := "name", desc := "(III)I" } : Jvm.MethodName)) ∈ zbig := zm5 187 rfl rfl
set_option maxRecDepth 10000 in
theorem tw_1228 : (Jvm.Cond.instanceMethod ({ cls := "NameNetsModel", name := "name", desc := "(III)I" } : Jvm.MethodName)) ∈ zbig := zm5 188 rfl rfl
set_option maxRecDepth 10000 in
theorem tw_1229 : (Jvm.Cond.selects "NameNetsModel" ({ cls := "NameNetsModel", name := "name", desc := "(III)I" } : Jvm.MethodName) ({ cls := "NameNetsModel", name := "name", desc := "(III)I" } : Jvm.MethodName)) ∈ zbig := zm5 189 rfl rfl
set_option maxRecDepth 10000 in
theorem tw_1230 : (Jvm.Cond.code ({ cls := "NameNetsModel", name := "name", desc := "(III)I" } : Jvm.MethodName) prog_12_method_32_code (4 : Nat) (Option.some Jvm.ClassFile.FieldType.int)) ∈ zbig := zm5 190 rfl rfl
set_option maxRecDepth 10000 in
theorem tw_1231 : (Jvm.Cond.constantLong "NameNetsModel" (186 : Nat) (3 : Int64)) ∈ zbig := zm5 191 rfl rfl
set_option maxRecDepth 10000 in
theorem tw_1232 : (Jvm.Cond.methodLink "NameNetsModel" (188 : Nat) ({ cls := "NameNetsModel", name := "findNames", desc := "(I)V" } : Jvm.MethodName)) ∈ zbig := zm5 192 rfl rfl
set_option maxRecDepth 10000 in
theorem tw_1234 : (Jvm.Cond.instanceMethod ({ cls := "NameNetsModel", name := "findNames", desc := "(I)V" } : Jvm.MethodName)) ∈ zbig := zm5 194 rfl rfl
set_option maxRecDepth 10000 in
theorem tw_1235 : (Jvm.Cond.code ({ cls := "NameNetsModel", name := "findNames", desc := "(I)V" } : Jvm.MethodName) prog_12_method_27_code (3 : Nat) (Option.none : Option Jvm.ClassFile.FieldType)) ∈ zbig := zm5 195 rfl rfl
set_option maxRecDepth 10000 in
theorem tw_1236 : (Jvm.Cond.methodLink "NameNetsModel" (162 : Nat) ({ cls := "NameNetsModel", name := "findSpans", desc := "()V" } : Jvm.MethodName)) ∈ zbig := zm5 196 rfl rfl
set_option maxRecDepth 10000 in
theorem tw_1238 : (Jvm.Cond.instanceMethod ({ cls := "NameNetsModel", name := "findSpans", desc := "()V" } : Jvm.MethodName)) ∈ zbig := zm5 198 rfl rfl
set_option maxRecDepth 10000 in
theorem tw_1239 : (Jvm.Cond.code ({ cls := "NameNetsModel", name := "findSpans", desc := "()V" } : Jvm.MethodName) prog_12_method_18_code (3 : Nat) (Option.none : Option Jvm.ClassFile.FieldType)) ∈ zbig := zm5 199 rfl rfl
set_option maxRecDepth 10000 in
theorem tw_1240 : (Jvm.Cond.methodLink "NameNetsModel" (136 : Nat) ({ cls := "NameNetsModel", name := "goDown", desc := "(II)I" } : Jvm.MethodName)) ∈ zbig := zm5 200 rfl rfl
set_option maxRecDepth 10000 in
theorem tw_1242 : (Jvm.Cond.instanceMethod ({ cls := "NameNetsModel", name := "goDown", desc := "(II)I" } : Jvm.MethodName)) ∈ zbig := zm5 202 rfl rfl
set_option maxRecDepth 10000 in
theorem tw_1243 : (Jvm.Cond.code ({ cls := "NameNetsModel", name := "goDown", desc := "(II)I" } : Jvm.MethodName) prog_12_method_19_code (8 : Nat) (Option.some Jvm.ClassFile.FieldType.int)) ∈ zbig := zm5 203 rfl rfl
set_option maxRecDepth 10000 in
theorem tw_1244 : (Jvm.Cond.methodLink "NameNetsModel" (165 : Nat) ({ cls := "NameNetsModel", name := "findRows", desc := "()V" } : Jvm.MethodName)) ∈ zbig := zm5 204 rfl rfl
set_option maxRecDepth 10000 in
theorem tw_1246 : (Jvm.Cond.instanceMethod ({ cls := "NameNetsModel", name := "findRows", desc := "()V" } : Jvm.MethodName)) ∈ zbig := zm5 206 rfl rfl
set_option maxRecDepth 10000 in
theorem tw_1247 : (Jvm.Cond.code ({ cls := "NameNetsModel", name := "findRows", desc := "()V" } : Jvm.MethodName) prog_12_method_26_code (4 : Nat) (Option.none : Option Jvm.ClassFile.FieldType)) ∈ zbig := zm5 207 rfl rfl
set_option maxRecDepth 10000 in
theorem tw_1248 : (Jvm.Cond.methodLink "NameNetsModel" (146 : Nat) ({ cls := "NameNetsModel", name := "put", desc := "(II)V" } : Jvm.MethodName)) ∈ zbig := zm5 208 rfl rfl
set_option maxRecDepth 10000 in
theorem tw_1250 : (Jvm.Cond.instanceMethod ({ cls := "NameNetsModel", name := "put", desc := "(II)V" } : Jvm.MethodName)) ∈ zbig := zm5 210 rfl rfl
set_option maxRecDepth 10000 in
theorem tw_1251 : (Jvm.Cond.code ({ cls := "NameNetsModel", name := "put", desc := "(II)V" } : Jvm.MethodName) prog_12_method_22_code (3 : Nat) (Option.none : Option Jvm.ClassFile.FieldType)) ∈ zbig := zm5 211 rfl rfl
set_option maxRecDepth 10000 in
theorem tw_1252 : (Jvm.Cond.methodLink "NameNetsModel" (168 : Nat) ({ cls := "NameNetsModel", name := "findHubs", desc := "()V" } : Jvm.MethodName)) ∈ zbig := zm5 212 rfl rfl
set_option maxRecDepth 10000 in
theorem tw_1254 : (Jvm.Cond.instanceMethod ({ cls := "NameNetsModel", name := "findHubs", desc := "()V" } : Jvm.MethodName)) ∈ zbig := zm5 214 rfl rfl
set_option maxRecDepth 10000 in
theorem tw_1255 : (Jvm.Cond.code ({ cls := "NameNetsModel", name := "findHubs", desc := "()V" } : Jvm.MethodName) prog_12_method_25_code (3 : Nat) (Option.none : Option Jvm.ClassFile.FieldType)) ∈ zbig := zm5 215 rfl rfl
set_option maxRecDepth 10000 in
theorem tw_1256 : (Jvm.Cond.methodLink "NameNetsModel" (153 : Nat) ({ cls := "NameNetsModel", name := "goFrom", desc := "(I)V" } : Jvm.MethodName)) ∈ zbig := zm5 216 rfl rfl
set_option maxRecDepth 10000 in
theorem tw_1258 : (Jvm.Cond.instanceMethod ({ cls := "NameNetsModel", name := "goFrom", desc := "(I)V" } : Jvm.MethodName)) ∈ zbig := zm5 218 rfl rfl
set_option maxRecDepth 10000 in
theorem tw_1259 : (Jvm.Cond.code ({ cls := "NameNetsModel", name := "goFrom", desc := "(I)V" } : Jvm.MethodName) prog_12_method_24_code (7 : Nat) (Option.none : Option Jvm.ClassFile.FieldType)) ∈ zbig := zm5 219 rfl rfl
set_option maxRecDepth 10000 in
theorem tw_1260 : (Jvm.Cond.methodLink "NameNetsModel" (143 : Nat) ({ cls := "NameNetsModel", name := "farOf", desc := "(II)I" } : Jvm.MethodName)) ∈ zbig := zm5 220 rfl rfl
set_option maxRecDepth 10000 in
theorem tw_1262 : (Jvm.Cond.instanceMethod ({ cls := "NameNetsModel", name := "farOf", desc := "(II)I" } : Jvm.MethodName)) ∈ zbig := zm5 222 rfl rfl
set_option maxRecDepth 10000 in
theorem tw_1263 : (Jvm.Cond.code ({ cls := "NameNetsModel", name := "farOf", desc := "(II)I" } : Jvm.MethodName) prog_12_method_23_code (7 : Nat) (Option.some Jvm.ClassFile.FieldType.int)) ∈ zbig := zm5 223 rfl rfl
set_option maxRecDepth 10000 in
theorem tw_1264 : (Jvm.Cond.methodLink "NameNetsLaw" (52 : Nat) ({ cls := "NameNetsModel", name := "bits", desc := "(II)I" } : Jvm.MethodName)) ∈ zbig := zm5 224 rfl rfl
set_option maxRecDepth 10000 in
theorem tw_1265 : (Jvm.Cond.instanceMethod ({ cls := "NameNetsModel", name := "bits", desc := "(II)I" } : Jvm.MethodName)) ∈ zbig := zm5 225 rfl rfl
set_option maxRecDepth 10000 in
theorem tw_1266 : (Jvm.Cond.selects "NameNetsModel" ({ cls := "NameNetsModel", name := "bits", desc := "(II)I" } : Jvm.MethodName) ({ cls := "NameNetsModel", name := "bits", desc := "(II)I" } : Jvm.MethodName)) ∈ zbig := zm5 226 rfl rfl
set_option maxRecDepth 10000 in
theorem tw_1267 : (Jvm.Cond.code ({ cls := "NameNetsModel", name := "bits", desc := "(II)I" } : Jvm.MethodName) prog_12_method_34_code (6 : Nat) (Option.some Jvm.ClassFile.FieldType.int)) ∈ zbig := zm5 227 rfl rfl
set_option maxRecDepth 10000 in
theorem tw_1268 : (Jvm.Cond.constantLong "NameNetsModel" (191 : Nat) (2 : Int64)) ∈ zbig := zm5 228 rfl rfl
set_option maxRecDepth 10000 in
theorem tw_1269 : (Jvm.Cond.methodLink "NameNetsModel" (193 : Nat) ({ cls := "NameNetsModel", name := "bitsOf", desc := "(II)I" } : Jvm.MethodName)) ∈ zbig := zm5 229 rfl rfl
set_option maxRecDepth 10000 in
theorem tw_1271 : (Jvm.Cond.instanceMethod ({ cls := "NameNetsModel", name := "bitsOf", desc := "(II)I" } : Jvm.MethodName)) ∈ zbig := zm5 231 rfl rfl
set_option maxRecDepth 10000 in
theorem tw_1272 : (Jvm.Cond.code ({ cls := "NameNetsModel", name := "bitsOf", desc := "(II)I" } : Jvm.MethodName) prog_12_method_33_code (4 : Nat) (Option.some Jvm.ClassFile.FieldType.int)) ∈ zbig := zm5 232 rfl rfl
set_option maxRecDepth 10000 in
theorem tw_1273 : (Jvm.Cond.methodLink "NameNetsLaw" (56 : Nat) ({ cls := "NameNetsModel", name := "ask", desc := "(III)I" } : Jvm.MethodName)) ∈ zbig := zm5 233 rfl rfl
set_option maxRecDepth 10000 in
theorem tw_1274 : (Jvm.Cond.instanceMethod ({ cls := "NameNetsModel", name := "ask", desc := "(III)I" } : Jvm.MethodName)) ∈ zbig := zm5 234 rfl rfl
set_option maxRecDepth 10000 in
theorem tw_1275 : (Jvm.Cond.selects "NameNetsModel" ({ cls := "NameNetsModel", name := "ask", desc := "(III)I" } : Jvm.MethodName) ({ cls := "NameNetsModel", name := "ask", desc := "(III)I" } : Jvm.MethodName)) ∈ zbig := zm5 235 rfl rfl
set_option maxRecDepth 10000 in
theorem tw_1276 : (Jvm.Cond.code ({ cls := "NameNetsModel", name := "ask", desc := "(III)I" } : Jvm.MethodName) prog_12_method_36_code (4 : Nat) (Option.some Jvm.ClassFile.FieldType.int)) ∈ zbig := zm5 236 rfl rfl
set_option maxRecDepth 10000 in
theorem tw_1277 : (Jvm.Cond.methodLink "NameNetsModel" (196 : Nat) ({ cls := "NameNetsModel", name := "sayOf", desc := "(III)I" } : Jvm.MethodName)) ∈ zbig := zm5 237 rfl rfl
set_option maxRecDepth 10000 in
theorem tw_1279 : (Jvm.Cond.instanceMethod ({ cls := "NameNetsModel", name := "sayOf", desc := "(III)I" } : Jvm.MethodName)) ∈ zbig := zm5 239 rfl rfl
set_option maxRecDepth 10000 in
theorem tw_1280 : (Jvm.Cond.code ({ cls := "NameNetsModel", name := "sayOf", desc := "(III)I" } : Jvm.MethodName) prog_12_method_35_code (6 : Nat) (Option.some Jvm.ClassFile.FieldType.int)) ∈ zbig := zm6 0 rfl rfl
set_option maxRecDepth 10000 in
theorem tw_1281 : (Jvm.Cond.methodLink "NameNetsLaw" (60 : Nat) ({ cls := "NameNetsModel", name := "parted", desc := "(III)I" } : Jvm.MethodName)) ∈ zbig := zm6 1 rfl rfl
set_option maxRecDepth 10000 in
theorem tw_1282 : (Jvm.Cond.instanceMethod ({ cls := "NameNetsModel", name := "parted", desc := "(III)I" } : Jvm.MethodName)) ∈ zbig := zm6 2 rfl rfl
set_option maxRecDepth 10000 in
theorem tw_1283 : (Jvm.Cond.selects "NameNetsModel" ({ cls := "NameNetsModel", name := "parted", desc := "(III)I" } : Jvm.MethodName) ({ cls := "NameNetsModel", name := "parted", desc := "(III)I" } : Jvm.MethodName)) ∈ zbig := zm6 3 rfl rfl
set_option maxRecDepth 10000 in
theorem tw_1284 : (Jvm.Cond.code ({ cls := "NameNetsModel", name := "parted", desc := "(III)I" } : Jvm.MethodName) prog_12_method_38_code (4 : Nat) (Option.some Jvm.ClassFile.FieldType.int)) ∈ zbig := zm6 4 rfl rfl
set_option maxRecDepth 10000 in
theorem tw_1285 : (Jvm.Cond.methodLink "NameNetsModel" (200 : Nat) ({ cls := "NameNetsModel", name := "ones", desc := "(I)I" } : Jvm.MethodName)) ∈ zbig := zm6 5 rfl rfl
set_option maxRecDepth 10000 in
theorem tw_1286 : (Jvm.Cond.static ({ cls := "NameNetsModel", name := "ones", desc := "(I)I" } : Jvm.MethodName)) ∈ zbig := zm6 6 rfl rfl
set_option maxRecDepth 10000 in
theorem tw_1287 : (Jvm.Cond.code ({ cls := "NameNetsModel", name := "ones", desc := "(I)I" } : Jvm.MethodName) prog_12_method_5_code (3 : Nat) (Option.some Jvm.ClassFile.FieldType.int)) ∈ zbig := zm6 7 rfl rfl
set_option maxRecDepth 10000 in
theorem tw_1288 : (Jvm.Cond.methodLink "NameNetsModel" (203 : Nat) ({ cls := "NameNetsModel", name := "isParted", desc := "(III)Z" } : Jvm.MethodName)) ∈ zbig := zm6 8 rfl rfl
set_option maxRecDepth 10000 in
theorem tw_1290 : (Jvm.Cond.instanceMethod ({ cls := "NameNetsModel", name := "isParted", desc := "(III)Z" } : Jvm.MethodName)) ∈ zbig := zm6 10 rfl rfl
set_option maxRecDepth 10000 in
theorem tw_1291 : (Jvm.Cond.code ({ cls := "NameNetsModel", name := "isParted", desc := "(III)Z" } : Jvm.MethodName) prog_12_method_37_code (10 : Nat) (Option.some Jvm.ClassFile.FieldType.boolean)) ∈ zbig := zm6 11 rfl rfl
set_option maxRecDepth 10000 in
theorem tw_1292 : (Jvm.Cond.methodLink "NameNetsLaw" (64 : Nat) ({ cls := "NameNetsModel", name := "learn", desc := "(I)I" } : Jvm.MethodName)) ∈ zbig := zm6 12 rfl rfl
set_option maxRecDepth 10000 in
theorem tw_1293 : (Jvm.Cond.instanceMethod ({ cls := "NameNetsModel", name := "learn", desc := "(I)I" } : Jvm.MethodName)) ∈ zbig := zm6 13 rfl rfl
set_option maxRecDepth 10000 in
theorem tw_1294 : (Jvm.Cond.selects "NameNetsModel" ({ cls := "NameNetsModel", name := "learn", desc := "(I)I" } : Jvm.MethodName) ({ cls := "NameNetsModel", name := "learn", desc := "(I)I" } : Jvm.MethodName)) ∈ zbig := zm6 14 rfl rfl
set_option maxRecDepth 10000 in
theorem tw_1295 : (Jvm.Cond.code ({ cls := "NameNetsModel", name := "learn", desc := "(I)I" } : Jvm.MethodName) prog_12_method_44_code (5 : Nat) (Option.some Jvm.ClassFile.FieldType.int)) ∈ zbig := zm6 15 rfl rfl
set_option maxRecDepth 10000 in
theorem tw_1296 : (Jvm.Cond.methodLink "NameNetsModel" (217 : Nat) ({ cls := "NameNetsModel", name := "staleSet", desc := "(I)I" } : Jvm.MethodName)) ∈ zbig := zm6 16 rfl rfl
set_option maxRecDepth 10000 in
theorem tw_1298 : (Jvm.Cond.instanceMethod ({ cls := "NameNetsModel", name := "staleSet", desc := "(I)I" } : Jvm.MethodName)) ∈ zbig := zm6 18 rfl rfl
set_option maxRecDepth 10000 in
theorem tw_1299 : (Jvm.Cond.code ({ cls := "NameNetsModel", name := "staleSet", desc := "(I)I" } : Jvm.MethodName) prog_12_method_43_code (4 : Nat) (Option.some Jvm.ClassFile.FieldType.int)) ∈ zbig := zm6 19 rfl rfl
set_option maxRecDepth 10000 in
theorem tw_1300 : (Jvm.Cond.methodLink "NameNetsModel" (214 : Nat) ({ cls := "NameNetsModel", name := "isStale", desc := "(II)Z" } : Jvm.MethodName)) ∈ zbig := zm6 20 rfl rfl
set_option maxRecDepth 10000 in
theorem tw_1302 : (Jvm.Cond.instanceMethod ({ cls := "NameNetsModel", name := "isStale", desc := "(II)Z" } : Jvm.MethodName)) ∈ zbig := zm6 22 rfl rfl
set_option maxRecDepth 10000 in
theorem tw_1303 : (Jvm.Cond.code ({ cls := "NameNetsModel", name := "isStale", desc := "(II)Z" } : Jvm.MethodName) prog_12_method_42_code (7 : Nat) (Option.some Jvm.ClassFile.FieldType.boolean)) ∈ zbig := zm6 23 rfl rfl
set_option maxRecDepth 10000 in
theorem tw_1304 : (Jvm.Cond.methodLink "NameNetsModel" (210 : Nat) ({ cls := "NameNetsModel", name := "isInBook", desc := "(II)Z" } : Jvm.MethodName)) ∈ zbig := zm6 24 rfl rfl
set_option maxRecDepth 10000 in
theorem tw_1306 : (Jvm.Cond.instanceMethod ({ cls := "NameNetsModel", name := "isInBook", desc := "(II)Z" } : Jvm.MethodName)) ∈ zbig := zm6 26 rfl rfl
set_option maxRecDepth 10000 in
theorem tw_1307 : (Jvm.Cond.code ({ cls := "NameNetsModel", name := "isInBook", desc := "(II)Z" } : Jvm.MethodName) prog_12_method_40_code (3 : Nat) (Option.some Jvm.ClassFile.FieldType.boolean)) ∈ zbig := zm6 27 rfl rfl
set_option maxRecDepth 10000 in
theorem tw_1308 : (Jvm.Cond.methodLink "NameNetsModel" (207 : Nat) ({ cls := "NameNetsModel", name := "bookAt", desc := "(II)I" } : Jvm.MethodName)) ∈ zbig := zm6 28 rfl rfl
set_option maxRecDepth 10000 in
theorem tw_1310 : (Jvm.Cond.instanceMethod ({ cls := "NameNetsModel", name := "bookAt", desc := "(II)I" } : Jvm.MethodName)) ∈ zbig := zm6 30 rfl rfl
set_option maxRecDepth 10000 in
theorem tw_1311 : (Jvm.Cond.code ({ cls := "NameNetsModel", name := "bookAt", desc := "(II)I" } : Jvm.MethodName) prog_12_method_39_code (3 : Nat) (Option.some Jvm.ClassFile.FieldType.int)) ∈ zbig := zm6 31 rfl rfl
set_option maxRecDepth 10000 in
theorem tw_1312 : (Jvm.Cond.methodLink "NameNetsModel" (220 : Nat) ({ cls := "NameNetsModel", name := "checkOf", desc := "(II)I" } : Jvm.MethodName)) ∈ zbig := zm6 32 rfl rfl
set_option maxRecDepth 10000 in
theorem tw_1314 : (Jvm.Cond.instanceMethod ({ cls := "NameNetsModel", name := "checkOf", desc := "(II)I" } : Jvm.MethodName)) ∈ zbig := zm6 34 rfl rfl
set_option maxRecDepth 10000 in
theorem tw_1315 : (Jvm.Cond.code ({ cls := "NameNetsModel", name := "checkOf", desc := "(II)I" } : Jvm.MethodName) prog_12_method_41_code (6 : Nat) (Option.some Jvm.ClassFile.FieldType.int)) ∈ zbig := zm6 35 rfl rfl
set_option maxRecDepth 10000 in
theorem tw_1316 : (Jvm.Cond.methodLink "NameNetsLaw" (69 : Nat) ({ cls := "NameNetsModel", name := "forge", desc := "(IIII)I" } : Jvm.MethodName)) ∈ zbig := zm6 36 rfl rfl
set_option maxRecDepth 10000 in
theorem tw_1317 : (Jvm.Cond.instanceMethod ({ cls := "NameNetsModel", name := "forge", desc := "(IIII)I" } : Jvm.MethodName)) ∈ zbig := zm6 37 rfl rfl
set_option maxRecDepth 10000 in
theorem tw_1318 : (Jvm.Cond.selects "NameNetsModel" ({ cls := "NameNetsModel", name := "forge", desc := "(IIII)I" } : Jvm.MethodName) ({ cls := "NameNetsModel", name := "forge", desc := "(IIII)I" } : Jvm.MethodName)) ∈ zbig := zm6 38 rfl rfl
set_option maxRecDepth 10000 in
theorem tw_1319 : (Jvm.Cond.code ({ cls := "NameNetsModel", name := "forge", desc := "(IIII)I" } : Jvm.MethodName) prog_12_method_45_code (6 : Nat) (Option.some Jvm.ClassFile.FieldType.int)) ∈ zbig := zm6 39 rfl rfl
set_option maxRecDepth 10000 in
theorem tw_1320 : (Jvm.Cond.constantLong "NameNetsModel" (223 : Nat) (99 : Int64)) ∈ zbig := zm6 40 rfl rfl
set_option maxRecDepth 10000 in
theorem tw_1321 : (Jvm.Cond.methodLink "NameNetsLaw" (73 : Nat) ({ cls := "NameNetsModel", name := "book", desc := "(III)I" } : Jvm.MethodName)) ∈ zbig := zm6 41 rfl rfl
set_option maxRecDepth 10000 in
theorem tw_1322 : (Jvm.Cond.instanceMethod ({ cls := "NameNetsModel", name := "book", desc := "(III)I" } : Jvm.MethodName)) ∈ zbig := zm6 42 rfl rfl
set_option maxRecDepth 10000 in
theorem tw_1323 : (Jvm.Cond.selects "NameNetsModel" ({ cls := "NameNetsModel", name := "book", desc := "(III)I" } : Jvm.MethodName) ({ cls := "NameNetsModel", name := "book", desc := "(III)I" } : Jvm.MethodName)) ∈ zbig := zm6 43 rfl rfl
set_option maxRecDepth 10000 in
theorem tw_1324 : (Jvm.Cond.code ({ cls := "NameNetsModel", name := "book", desc := "(III)I" } : Jvm.MethodName) prog_12_method_46_code (5 : Nat) (Option.some Jvm.ClassFile.FieldType.int)) ∈ zbig := zm6 44 rfl rfl
set_option maxRecDepth 10000 in
theorem tw_1325 : (Jvm.Cond.methodLink "NameNetsLaw" (77 : Nat) ({ cls := "NameNetsModel", name := "answer", desc := "(III)I" } : Jvm.MethodName)) ∈ zbig := zm6 45 rfl rfl
set_option maxRecDepth 10000 in
theorem tw_1326 : (Jvm.Cond.instanceMethod ({ cls := "NameNetsModel", name := "answer", desc := "(III)I" } : Jvm.MethodName)) ∈ zbig := zm6 46 rfl rfl
set_option maxRecDepth 10000 in
theorem tw_1327 : (Jvm.Cond.selects "NameNetsModel" ({ cls := "NameNetsModel", name := "answer", desc := "(III)I" } : Jvm.MethodName) ({ cls := "NameNetsModel", name := "answer", desc := "(III)I" } : Jvm.MethodName)) ∈ zbig := zm6 47 rfl rfl
set_option maxRecDepth 10000 in
theorem tw_1328 : (Jvm.Cond.code ({ cls := "NameNetsModel", name := "answer", desc := "(III)I" } : Jvm.MethodName) prog_12_method_48_code (6 : Nat) (Option.some Jvm.ClassFile.FieldType.int)) ∈ zbig := zm6 48 rfl rfl
set_option maxRecDepth 10000 in
theorem tw_1329 : (Jvm.Cond.methodLink "NameNetsModel" (225 : Nat) ({ cls := "NameNetsModel", name := "isDamaged", desc := "(II)Z" } : Jvm.MethodName)) ∈ zbig := zm6 49 rfl rfl
set_option maxRecDepth 10000 in
theorem tw_1331 : (Jvm.Cond.instanceMethod ({ cls := "NameNetsModel", name := "isDamaged", desc := "(II)Z" } : Jvm.MethodName)) ∈ zbig := zm6 51 rfl rfl
set_option maxRecDepth 10000 in
theorem tw_1332 : (Jvm.Cond.code ({ cls := "NameNetsModel", name := "isDamaged", desc := "(II)Z" } : Jvm.MethodName) prog_12_method_47_code (3 : Nat) (Option.some Jvm.ClassFile.FieldType.boolean)) ∈ zbig := zm6 52 rfl rfl
set_option maxRecDepth 10000 in
theorem tw_1333 : (Jvm.Cond.methodLink "NameNetsLaw" (81 : Nat) ({ cls := "NameNetsModel", name := "stale", desc := "(I)I" } : Jvm.MethodName)) ∈ zbig := zm6 53 rfl rfl
set_option maxRecDepth 10000 in
theorem tw_1334 : (Jvm.Cond.instanceMethod ({ cls := "NameNetsModel", name := "stale", desc := "(I)I" } : Jvm.MethodName)) ∈ zbig := zm6 54 rfl rfl
set_option maxRecDepth 10000 in
theorem tw_1335 : (Jvm.Cond.selects "NameNetsModel" ({ cls := "NameNetsModel", name := "stale", desc := "(I)I" } : Jvm.MethodName) ({ cls := "NameNetsModel", name := "stale", desc := "(I)I" } : Jvm.MethodName)) ∈ zbig := zm6 55 rfl rfl
set_option maxRecDepth 10000 in
theorem tw_1336 : (Jvm.Cond.code ({ cls := "NameNetsModel", name := "stale", desc := "(I)I" } : Jvm.MethodName) prog_12_method_49_code (2 : Nat) (Option.some Jvm.ClassFile.FieldType.int)) ∈ zbig := zm6 56 rfl rfl
set_option maxRecDepth 10000 in
theorem tw_1337 : (Jvm.Cond.methodLink "NameNetsLaw" (85 : Nat) ({ cls := "NameNetsModel", name := "damaged", desc := "(I)I" } : Jvm.MethodName)) ∈ zbig := zm6 57 rfl rfl
set_option maxRecDepth 10000 in
theorem tw_1338 : (Jvm.Cond.instanceMethod ({ cls := "NameNetsModel", name := "damaged", desc := "(I)I" } : Jvm.MethodName)) ∈ zbig := zm6 58 rfl rfl
set_option maxRecDepth 10000 in
theorem tw_1339 : (Jvm.Cond.selects "NameNetsModel" ({ cls := "NameNetsModel", name := "damaged", desc := "(I)I" } : Jvm.MethodName) ({ cls := "NameNetsModel", name := "damaged", desc := "(I)I" } : Jvm.MethodName)) ∈ zbig := zm6 59 rfl rfl
set_option maxRecDepth 10000 in
theorem tw_1340 : (Jvm.Cond.code ({ cls := "NameNetsModel", name := "damaged", desc := "(I)I" } : Jvm.MethodName) prog_12_method_50_code (4 : Nat) (Option.some Jvm.ClassFile.FieldType.int)) ∈ zbig := zm6 60 rfl rfl
set_option maxRecDepth 10000 in
theorem tw_1341 : (Jvm.Cond.methodLink "NameNetsLaw" (89 : Nat) ({ cls := "NameNetsModel", name := "next", desc := "(II)I" } : Jvm.MethodName)) ∈ zbig := zm6 61 rfl rfl
set_option maxRecDepth 10000 in
theorem tw_1342 : (Jvm.Cond.instanceMethod ({ cls := "NameNetsModel", name := "next", desc := "(II)I" } : Jvm.MethodName)) ∈ zbig := zm6 62 rfl rfl
set_option maxRecDepth 10000 in
theorem tw_1343 : (Jvm.Cond.selects "NameNetsModel" ({ cls := "NameNetsModel", name := "next", desc := "(II)I" } : Jvm.MethodName) ({ cls := "NameNetsModel", name := "next", desc := "(II)I" } : Jvm.MethodName)) ∈ zbig := zm6 63 rfl rfl
set_option maxRecDepth 10000 in
theorem tw_1344 : (Jvm.Cond.code ({ cls := "NameNetsModel", name := "next", desc := "(II)I" } : Jvm.MethodName) prog_12_method_52_code (3 : Nat) (Option.some Jvm.ClassFile.FieldType.int)) ∈ zbig := zm6 64 rfl rfl
set_option maxRecDepth 10000 in
theorem tw_1345 : (Jvm.Cond.methodLink "NameNetsModel" (228 : Nat) ({ cls := "NameNetsModel", name := "nextOf", desc := "(II)I" } : Jvm.MethodName)) ∈ zbig := zm6 65 rfl rfl
set_option maxRecDepth 10000 in
theorem tw_1347 : (Jvm.Cond.instanceMethod ({ cls := "NameNetsModel", name := "nextOf", desc := "(II)I" } : Jvm.MethodName)) ∈ zbig := zm6 67 rfl rfl
set_option maxRecDepth 10000 in
theorem tw_1348 : (Jvm.Cond.code ({ cls := "NameNetsModel", name := "nextOf", desc := "(II)I" } : Jvm.MethodName) prog_12_method_51_code (5 : Nat) (Option.some Jvm.ClassFile.FieldType.int)) ∈ zbig := zm6 68 rfl rfl
set_option maxRecDepth 10000 in
theorem tw_1349 : (Jvm.Cond.methodLink "NameNetsLaw" (93 : Nat) ({ cls := "NameNetsModel", name := "goes", desc := "(II)I" } : Jvm.MethodName)) ∈ zbig := zm6 69 rfl rfl
set_option maxRecDepth 10000 in
theorem tw_1350 : (Jvm.Cond.instanceMethod ({ cls := "NameNetsModel", name := "goes", desc := "(II)I" } : Jvm.MethodName)) ∈ zbig := zm6 70 rfl rfl
set_option maxRecDepth 10000 in
theorem tw_1351 : (Jvm.Cond.selects "NameNetsModel" ({ cls := "NameNetsModel", name := "goes", desc := "(II)I" } : Jvm.MethodName) ({ cls := "NameNetsModel", name := "goes", desc := "(II)I" } : Jvm.MethodName)) ∈ zbig := zm6 71 rfl rfl
set_option maxRecDepth 10000 in
theorem tw_1352 : (Jvm.Cond.code ({ cls := "NameNetsModel", name := "goes", desc := "(II)I" } : Jvm.MethodName) prog_12_method_54_code (3 : Nat) (Option.some Jvm.ClassFile.FieldType.int)) ∈ zbig := zm6 72 rfl rfl
set_option maxRecDepth 10000 in
theorem tw_1353 : (Jvm.Cond.methodLink "NameNetsModel" (231 : Nat) ({ cls := "NameNetsModel", name := "goesOf", desc := "(II)I" } : Jvm.MethodName)) ∈ zbig := zm6 73 rfl rfl
set_option maxRecDepth 10000 in
theorem tw_1355 : (Jvm.Cond.instanceMethod ({ cls := "NameNetsModel", name := "goesOf", desc := "(II)I" } : Jvm.MethodName)) ∈ zbig := zm6 75 rfl rfl
set_option maxRecDepth 10000 in
theorem tw_1356 : (Jvm.Cond.code ({ cls := "NameNetsModel", name := "goesOf", desc := "(II)I" } : Jvm.MethodName) prog_12_method_53_code (5 : Nat) (Option.some Jvm.ClassFile.FieldType.int)) ∈ zbig := zm6 76 rfl rfl
set_option maxRecDepth 10000 in
theorem tw_1357 : (Jvm.Cond.methodLink "NameNetsLaw" (97 : Nat) ({ cls := "NameNetsModel", name := "stretch", desc := "(I)I" } : Jvm.MethodName)) ∈ zbig := zm6 77 rfl rfl
set_option maxRecDepth 10000 in
theorem tw_1358 : (Jvm.Cond.instanceMethod ({ cls := "NameNetsModel", name := "stretch", desc := "(I)I" } : Jvm.MethodName)) ∈ zbig := zm6 78 rfl rfl
set_option maxRecDepth 10000 in
theorem tw_1359 : (Jvm.Cond.selects "NameNetsModel" ({ cls := "NameNetsModel", name := "stretch", desc := "(I)I" } : Jvm.MethodName) ({ cls := "NameNetsModel", name := "stretch", desc := "(I)I" } : Jvm.MethodName)) ∈ zbig := zm6 79 rfl rfl
set_option maxRecDepth 10000 in
theorem tw_1360 : (Jvm.Cond.code ({ cls := "NameNetsModel", name := "stretch", desc := "(I)I" } : Jvm.MethodName) prog_12_method_56_code (9 : Nat) (Option.some Jvm.ClassFile.FieldType.int)) ∈ zbig := zm6 80 rfl rfl
set_option maxRecDepth 10000 in
theorem tw_1361 : (Jvm.Cond.methodLink "NameNetsModel" (234 : Nat) ({ cls := "NameNetsModel", name := "findWays", desc := "(I)V" } : Jvm.MethodName)) ∈ zbig := zm6 81 rfl rfl
set_option maxRecDepth 10000 in
theorem tw_1363 : (Jvm.Cond.instanceMethod ({ cls := "NameNetsModel", name := "findWays", desc := "(I)V" } : Jvm.MethodName)) ∈ zbig := zm6 83 rfl rfl
set_option maxRecDepth 10000 in
theorem tw_1364 : (Jvm.Cond.code ({ cls := "NameNetsModel", name := "findWays", desc := "(I)V" } : Jvm.MethodName) prog_12_method_55_code (5 : Nat) (Option.none : Option Jvm.ClassFile.FieldType)) ∈ zbig := zm6 84 rfl rfl
set_option maxRecDepth 10000 in
theorem tw_1365 : (Jvm.Cond.methodLink "NameNetsLaw" (101 : Nat) ({ cls := "NameNetsModel", name := "cut", desc := "(II)I" } : Jvm.MethodName)) ∈ zbig := zm6 85 rfl rfl
set_option maxRecDepth 10000 in
theorem tw_1366 : (Jvm.Cond.instanceMethod ({ cls := "NameNetsModel", name := "cut", desc := "(II)I" } : Jvm.MethodName)) ∈ zbig := zm6 86 rfl rfl
set_option maxRecDepth 10000 in
theorem tw_1367 : (Jvm.Cond.selects "NameNetsModel" ({ cls := "NameNetsModel", name := "cut", desc := "(II)I" } : Jvm.MethodName) ({ cls := "NameNetsModel", name := "cut", desc := "(II)I" } : Jvm.MethodName)) ∈ zbig := zm6 87 rfl rfl
set_option maxRecDepth 10000 in
theorem tw_1368 : (Jvm.Cond.code ({ cls := "NameNetsModel", name := "cut", desc := "(II)I" } : Jvm.MethodName) prog_12_method_57_code (8 : Nat) (Option.some Jvm.ClassFile.FieldType.int)) ∈ zbig := zm6 88 rfl rfl
set_option maxRecDepth 10000 in
theorem tw_1369 : (Jvm.Cond.methodLink "NameNetsLaw" (105 : Nat) ({ cls := "NameNetsModel", name := "ways", desc := "(II)I" } : Jvm.MethodName)) ∈ zbig := zm6 89 rfl rfl
set_option maxRecDepth 10000 in
theorem tw_1370 : (Jvm.Cond.instanceMethod ({ cls := "NameNetsModel", name := "ways", desc := "(II)I" } : Jvm.MethodName)) ∈ zbig := zm6 90 rfl rfl
set_option maxRecDepth 10000 in
theorem tw_1371 : (Jvm.Cond.selects "NameNetsModel" ({ cls := "NameNetsModel", name := "ways", desc := "(II)I" } : Jvm.MethodName) ({ cls := "NameNetsModel", name := "ways", desc := "(II)I" } : Jvm.MethodName)) ∈ zbig := zm6 91 rfl rfl
set_option maxRecDepth 10000 in
theorem tw_1372 : (Jvm.Cond.code ({ cls := "NameNetsModel", name := "ways", desc := "(II)I" } : Jvm.MethodName) prog_12_method_59_code (4 : Nat) (Option.some Jvm.ClassFile.FieldType.int)) ∈ zbig := zm6 92 rfl rfl
set_option maxRecDepth 10000 in
theorem tw_1373 : (Jvm.Cond.methodLink "NameNetsModel" (237 : Nat) ({ cls := "NameNetsModel", name := "oneMore", desc := "(II)Z" } : Jvm.MethodName)) ∈ zbig := zm6 93 rfl rfl
set_option maxRecDepth 10000 in
theorem tw_1375 : (Jvm.Cond.instanceMethod ({ cls := "NameNetsModel", name := "oneMore", desc := "(II)Z" } : Jvm.MethodName)) ∈ zbig := zm6 95 rfl rfl
set_option maxRecDepth 10000 in
theorem tw_1376 : (Jvm.Cond.code ({ cls := "NameNetsModel", name := "oneMore", desc := "(II)Z" } : Jvm.MethodName) prog_12_method_58_code (10 : Nat) (Option.some Jvm.ClassFile.FieldType.boolean)) ∈ zbig := zm6 96 rfl rfl
set_option maxRecDepth 10000 in
theorem tw_1377 : (Jvm.Cond.methodLink "NameNetsLaw" (109 : Nat) ({ cls := "NameNetsModel", name := "holds", desc := "(IIII)I" } : Jvm.MethodName)) ∈ zbig := zm6 97 rfl rfl
set_option maxRecDepth 10000 in
theorem tw_1378 : (Jvm.Cond.instanceMethod ({ cls := "NameNetsModel", name := "holds", desc := "(IIII)I" } : Jvm.MethodName)) ∈ zbig := zm6 98 rfl rfl
set_option maxRecDepth 10000 in
theorem tw_1379 : (Jvm.Cond.selects "NameNetsModel" ({ cls := "NameNetsModel", name := "holds", desc := "(IIII)I" } : Jvm.MethodName) ({ cls := "NameNetsModel", name := "holds", desc := "(IIII)I" } : Jvm.MethodName)) ∈ zbig := zm6 99 rfl rfl
set_option maxRecDepth 10000 in
theorem tw_1380 : (Jvm.Cond.code ({ cls := "NameNetsModel", name := "holds", desc := "(IIII)I" } : Jvm.MethodName) prog_12_method_64_code (5 : Nat) (Option.some Jvm.ClassFile.FieldType.int)) ∈ zbig := zm6 100 rfl rfl
set_option maxRecDepth 10000 in
theorem tw_1381 : (Jvm.Cond.constantLong "NameNetsModel" (250 : Nat) (5 : Int64)) ∈ zbig := zm6 101 rfl rfl
set_option maxRecDepth 10000 in
theorem tw_1382 : (Jvm.Cond.methodLink "NameNetsModel" (240 : Nat) ({ cls := "NameNetsModel", name := "pairs", desc := "(I)I" } : Jvm.MethodName)) ∈ zbig := zm6 102 rfl rfl
set_option maxRecDepth 10000 in
theorem tw_1383 : (Jvm.Cond.static ({ cls := "NameNetsModel", name := "pairs", desc := "(I)I" } : Jvm.MethodName)) ∈ zbig := zm6 103 rfl rfl
set_option maxRecDepth 10000 in
theorem tw_1384 : (Jvm.Cond.code ({ cls := "NameNetsModel", name := "pairs", desc := "(I)I" } : Jvm.MethodName) prog_12_method_60_code (1 : Nat) (Option.some Jvm.ClassFile.FieldType.int)) ∈ zbig := zm6 104 rfl rfl
set_option maxRecDepth 10000 in
theorem tw_1385 : (Jvm.Cond.methodLink "NameNetsModel" (252 : Nat) ({ cls := "NameNetsModel", name := "holdsOne", desc := "(IIII)Z" } : Jvm.MethodName)) ∈ zbig := zm6 105 rfl rfl
set_option maxRecDepth 10000 in
theorem tw_1387 : (Jvm.Cond.instanceMethod ({ cls := "NameNetsModel", name := "holdsOne", desc := "(IIII)Z" } : Jvm.MethodName)) ∈ zbig := zm6 107 rfl rfl
set_option maxRecDepth 10000 in
theorem tw_1388 : (Jvm.Cond.code ({ cls := "NameNetsModel", name := "holdsOne", desc := "(IIII)Z" } : Jvm.MethodName) prog_12_method_63_code (8 : Nat) (Option.some Jvm.ClassFile.FieldType.boolean)) ∈ zbig := zm6 108 rfl rfl
set_option maxRecDepth 10000 in
theorem tw_1389 : (Jvm.Cond.methodLink "NameNetsModel" (246 : Nat) ({ cls := "NameNetsModel", name := "isPick", desc := "(IIIII)Z" } : Jvm.MethodName)) ∈ zbig := zm6 109 rfl rfl
set_option maxRecDepth 10000 in
theorem tw_1391 : (Jvm.Cond.instanceMethod ({ cls := "NameNetsModel", name := "isPick", desc := "(IIIII)Z" } : Jvm.MethodName)) ∈ zbig := zm6 111 rfl rfl
set_option maxRecDepth 10000 in
theorem tw_1392 : (Jvm.Cond.code ({ cls := "NameNetsModel", name := "isPick", desc := "(IIIII)Z" } : Jvm.MethodName) prog_12_method_62_code (10 : Nat) (Option.some Jvm.ClassFile.FieldType.boolean)) ∈ zbig := zm6 112 rfl rfl
set_option maxRecDepth 10000 in
theorem tw_1393 : (Jvm.Cond.methodLink "NameNetsModel" (243 : Nat) ({ cls := "NameNetsModel", name := "joined", desc := "(III)I" } : Jvm.MethodName)) ∈ zbig := zm6 113 rfl rfl
set_option maxRecDepth 10000 in
theorem tw_1394 : (Jvm.Cond.static ({ cls := "NameNetsModel", name := "joined", desc := "(III)I" } : Jvm.MethodName)) ∈ zbig := zm6 114 rfl rfl
set_option maxRecDepth 10000 in
theorem tw_1395 : (Jvm.Cond.code ({ cls := "NameNetsModel", name := "joined", desc := "(III)I" } : Jvm.MethodName) prog_12_method_61_code (5 : Nat) (Option.some Jvm.ClassFile.FieldType.int)) ∈ zbig := zm6 115 rfl rfl
set_option maxRecDepth 10000 in
theorem tw_1396 : (Jvm.Cond.methodLink "NameNetsLaw" (113 : Nat) ({ cls := "NameNetsModel", name := "universal", desc := "(III)I" } : Jvm.MethodName)) ∈ zbig := zm6 116 rfl rfl
set_option maxRecDepth 10000 in
theorem tw_1397 : (Jvm.Cond.instanceMethod ({ cls := "NameNetsModel", name := "universal", desc := "(III)I" } : Jvm.MethodName)) ∈ zbig := zm6 117 rfl rfl
set_option maxRecDepth 10000 in
theorem tw_1398 : (Jvm.Cond.selects "NameNetsModel" ({ cls := "NameNetsModel", name := "universal", desc := "(III)I" } : Jvm.MethodName) ({ cls := "NameNetsModel", name := "universal", desc := "(III)I" } : Jvm.MethodName)) ∈ zbig := zm6 118 rfl rfl
set_option maxRecDepth 10000 in
theorem tw_1399 : (Jvm.Cond.code ({ cls := "NameNetsModel", name := "universal", desc := "(III)I" } : Jvm.MethodName) prog_12_method_66_code (7 : Nat) (Option.some Jvm.ClassFile.FieldType.int)) ∈ zbig := zm6 119 rfl rfl
set_option maxRecDepth 10000 in
theorem tw_1400 : (Jvm.Cond.methodLink "NameNetsModel" (256 : Nat) ({ cls := "NameNetsModel", name := "isUniversal", desc := "(III)Z" } : Jvm.MethodName)) ∈ zbig := zm6 120 rfl rfl
set_option maxRecDepth 10000 in
theorem tw_1402 : (Jvm.Cond.instanceMethod ({ cls := "NameNetsModel", name := "isUniversal", desc := "(III)Z" } : Jvm.MethodName)) ∈ zbig := zm6 122 rfl rfl
set_option maxRecDepth 10000 in
theorem tw_1403 : (Jvm.Cond.code ({ cls := "NameNetsModel", name := "isUniversal", desc := "(III)Z" } : Jvm.MethodName) prog_12_method_65_code (6 : Nat) (Option.some Jvm.ClassFile.FieldType.boolean)) ∈ zbig := zm6 123 rfl rfl
set_option maxRecDepth 10000 in
theorem tw_1404 : (Jvm.Cond.methodLink "NameNetsLaw" (117 : Nat) ({ cls := "NameNetsModel", name := "small", desc := "()I" } : Jvm.MethodName)) ∈ zbig := zm6 124 rfl rfl
set_option maxRecDepth 10000 in
theorem tw_1405 : (Jvm.Cond.instanceMethod ({ cls := "NameNetsModel", name := "small", desc := "()I" } : Jvm.MethodName)) ∈ zbig := zm6 125 rfl rfl
set_option maxRecDepth 10000 in
theorem tw_1406 : (Jvm.Cond.selects "NameNetsModel" ({ cls := "NameNetsModel", name := "small", desc := "()I" } : Jvm.MethodName) ({ cls := "NameNetsModel", name := "small", desc := "()I" } : Jvm.MethodName)) ∈ zbig := zm6 126 rfl rfl
set_option maxRecDepth 10000 in
theorem tw_1407 : (Jvm.Cond.code ({ cls := "NameNetsModel", name := "small", desc := "()I" } : Jvm.MethodName) prog_12_method_67_code (4 : Nat) (Option.some Jvm.ClassFile.FieldType.int)) ∈ zbig := zm6 127 rfl rfl
set_option maxRecDepth 10000 in
theorem tw_1408 : (Jvm.Cond.methodLink "NameNetsLaw" (124 : Nat) ({ cls := "NameNetsModel", name := "feed", desc := "(IJ)I" } : Jvm.MethodName)) ∈ zbig := zm6 128 rfl rfl
set_option maxRecDepth 10000 in
theorem tw_1409 : (Jvm.Cond.instanceMethod ({ cls := "NameNetsModel", name := "feed", desc := "(IJ)I" } : Jvm.MethodName)) ∈ zbig := zm6 129 rfl rfl
set_option maxRecDepth 10000 in
theorem tw_1410 : (Jvm.Cond.selects "NameNetsModel" ({ cls := "NameNetsModel", name := "feed", desc := "(IJ)I" } : Jvm.MethodName) ({ cls := "NameNetsModel", name := "feed", desc := "(IJ)I" } : Jvm.MethodName)) ∈ zbig := zm6 130 rfl rfl
set_option maxRecDepth 10000 in
theorem tw_1411 : (Jvm.Cond.code ({ cls := "NameNetsModel", name := "feed", desc := "(IJ)I" } : Jvm.MethodName) prog_12_method_68_code (5 : Nat) (Option.some Jvm.ClassFile.FieldType.int)) ∈ zbig := zm6 131 rfl rfl
set_option maxRecDepth 10000 in
theorem tw_1412 : (Jvm.Cond.constantLong "NameNetsModel" (259 : Nat) (8 : Int64)) ∈ zbig := zm6 132 rfl rfl
set_option maxRecDepth 10000 in
theorem tw_1413 : (Jvm.Cond.constantLong "NameNetsModel" (261 : Nat) (255 : Int64)) ∈ zbig := zm6 133 rfl rfl
set_option maxRecDepth 10000 in
theorem tw_1414 : (Jvm.Cond.methodLink "NameNetsLaw" (128 : Nat) ({ cls := "NameNetsModel", name := "read", desc := "()I" } : Jvm.MethodName)) ∈ zbig := zm6 134 rfl rfl
set_option maxRecDepth 10000 in
theorem tw_1415 : (Jvm.Cond.instanceMethod ({ cls := "NameNetsModel", name := "read", desc := "()I" } : Jvm.MethodName)) ∈ zbig := zm6 135 rfl rfl
set_option maxRecDepth 10000 in
theorem tw_1416 : (Jvm.Cond.selects "NameNetsModel" ({ cls := "NameNetsModel", name := "read", desc := "()I" } : Jvm.MethodName) ({ cls := "NameNetsModel", name := "read", desc := "()I" } : Jvm.MethodName)) ∈ zbig := zm6 136 rfl rfl
set_option maxRecDepth 10000 in
theorem tw_1417 : (Jvm.Cond.code ({ cls := "NameNetsModel", name := "read", desc := "()I" } : Jvm.MethodName) prog_12_method_76_code (2 : Nat) (Option.some Jvm.ClassFile.FieldType.int)) ∈ zbig := zm6 137 rfl rfl
set_option maxRecDepth 10000 in
theorem tw_1418 : (Jvm.Cond.methodLink "NameNetsModel" (275 : Nat) ({ cls := "NameNetsModel", name := "here", desc := "()I" } : Jvm.MethodName)) ∈ zbig := zm6 138 rfl rfl
set_option maxRecDepth 10000 in
theorem tw_1420 : (Jvm.Cond.instanceMethod ({ cls := "NameNetsModel", name := "here", desc := "()I" } : Jvm.MethodName)) ∈ zbig := zm6 140 rfl rfl
set_option maxRecDepth 10000 in
theorem tw_1421 : (Jvm.Cond.code ({ cls := "NameNetsModel", name := "here", desc := "()I" } : Jvm.MethodName) prog_12_method_69_code (1 : Nat) (Option.some Jvm.ClassFile.FieldType.int)) ∈ zbig := zm6 141 rfl rfl
set_option maxRecDepth 10000 in
theorem tw_1422 : (Jvm.Cond.methodLink "NameNetsModel" (316 : Nat) ({ cls := "NameNetsModel", name := "readQuestion", desc := "()V" } : Jvm.MethodName)) ∈ zbig := zm6 142 rfl rfl
set_option maxRecDepth 10000 in
theorem tw_1424 : (Jvm.Cond.instanceMethod ({ cls := "NameNetsModel", name := "readQuestion", desc := "()V" } : Jvm.MethodName)) ∈ zbig := zm6 144 rfl rfl
set_option maxRecDepth 10000 in
theorem tw_1425 : (Jvm.Cond.code ({ cls := "NameNetsModel", name := "readQuestion", desc := "()V" } : Jvm.MethodName) prog_12_method_75_code (5 : Nat) (Option.none : Option Jvm.ClassFile.FieldType)) ∈ zbig := zm6 145 rfl rfl
set_option maxRecDepth 10000 in
theorem tw_1426 : (Jvm.Cond.methodLink "NameNetsModel" (304 : Nat) ({ cls := "NameNetsModel", name := "takeQuestion", desc := "()I" } : Jvm.MethodName)) ∈ zbig := zm6 146 rfl rfl
set_option maxRecDepth 10000 in
theorem tw_1428 : (Jvm.Cond.instanceMethod ({ cls := "NameNetsModel", name := "takeQuestion", desc := "()I" } : Jvm.MethodName)) ∈ zbig := zm6 148 rfl rfl
set_option maxRecDepth 10000 in
theorem tw_1429 : (Jvm.Cond.code ({ cls := "NameNetsModel", name := "takeQuestion", desc := "()I" } : Jvm.MethodName) prog_12_method_72_code (2 : Nat) (Option.some Jvm.ClassFile.FieldType.int)) ∈ zbig := zm6 149 rfl rfl
set_option maxRecDepth 10000 in
theorem tw_1430 : (Jvm.Cond.constantLong "NameNetsModel" (279 : Nat) (97 : Int64)) ∈ zbig := zm6 150 rfl rfl
set_option maxRecDepth 10000 in
theorem tw_1431 : (Jvm.Cond.constantLong "NameNetsModel" (281 : Nat) (122 : Int64)) ∈ zbig := zm6 151 rfl rfl
set_option maxRecDepth 10000 in
theorem tw_1432 : (Jvm.Cond.methodLink "NameNetsModel" (283 : Nat) ({ cls := "NameNetsModel", name := "isWord", desc := "(IIIIIII)Z" } : Jvm.MethodName)) ∈ zbig := zm6 152 rfl rfl
set_option maxRecDepth 10000 in
theorem tw_1434 : (Jvm.Cond.instanceMethod ({ cls := "NameNetsModel", name := "isWord", desc := "(IIIIIII)Z" } : Jvm.MethodName)) ∈ zbig := zm6 154 rfl rfl
set_option maxRecDepth 10000 in
theorem tw_1435 : (Jvm.Cond.code ({ cls := "NameNetsModel", name := "isWord", desc := "(IIIIIII)Z" } : Jvm.MethodName) prog_12_method_71_code (10 : Nat) (Option.some Jvm.ClassFile.FieldType.boolean)) ∈ zbig := zm6 155 rfl rfl
set_option maxRecDepth 10000 in
theorem tw_1436 : (Jvm.Cond.methodLink "NameNetsModel" (291 : Nat) ({ cls := "NameNetsModel", name := "want", desc := "(ZII)Z" } : Jvm.MethodName)) ∈ zbig := zm6 156 rfl rfl
set_option maxRecDepth 10000 in
theorem tw_1438 : (Jvm.Cond.instanceMethod ({ cls := "NameNetsModel", name := "want", desc := "(ZII)Z" } : Jvm.MethodName)) ∈ zbig := zm6 158 rfl rfl
set_option maxRecDepth 10000 in
theorem tw_1439 : (Jvm.Cond.code ({ cls := "NameNetsModel", name := "want", desc := "(ZII)Z" } : Jvm.MethodName) prog_12_method_70_code (4 : Nat) (Option.some Jvm.ClassFile.FieldType.boolean)) ∈ zbig := zm6 159 rfl rfl
set_option maxRecDepth 10000 in
theorem tw_1440 : (Jvm.Cond.methodLink "NameNetsModel" (310 : Nat) ({ cls := "NameNetsModel", name := "takeNumber", desc := "(I)V" } : Jvm.MethodName)) ∈ zbig := zm6 160 rfl rfl
set_option maxRecDepth 10000 in
theorem tw_1442 : (Jvm.Cond.instanceMethod ({ cls := "NameNetsModel", name := "takeNumber", desc := "(I)V" } : Jvm.MethodName)) ∈ zbig := zm6 162 rfl rfl
set_option maxRecDepth 10000 in
theorem tw_1443 : (Jvm.Cond.code ({ cls := "NameNetsModel", name := "takeNumber", desc := "(I)V" } : Jvm.MethodName) prog_12_method_73_code (6 : Nat) (Option.none : Option Jvm.ClassFile.FieldType)) ∈ zbig := zm6 163 rfl rfl
set_option maxRecDepth 10000 in
theorem tw_1444 : (Jvm.Cond.constantLong "NameNetsModel" (287 : Nat) (48 : Int64)) ∈ zbig := zm6 164 rfl rfl
set_option maxRecDepth 10000 in
theorem tw_1445 : (Jvm.Cond.constantLong "NameNetsModel" (289 : Nat) (57 : Int64)) ∈ zbig := zm6 165 rfl rfl
set_option maxRecDepth 10000 in
theorem tw_1446 : (Jvm.Cond.methodLink "NameNetsModel" (313 : Nat) ({ cls := "NameNetsModel", name := "answerOf", desc := "(II)I" } : Jvm.MethodName)) ∈ zbig := zm6 166 rfl rfl
set_option maxRecDepth 10000 in
theorem tw_1448 : (Jvm.Cond.instanceMethod ({ cls := "NameNetsModel", name := "answerOf", desc := "(II)I" } : Jvm.MethodName)) ∈ zbig := zm6 168 rfl rfl
set_option maxRecDepth 10000 in
theorem tw_1449 : (Jvm.Cond.code ({ cls := "NameNetsModel", name := "answerOf", desc := "(II)I" } : Jvm.MethodName) prog_12_method_74_code (5 : Nat) (Option.some Jvm.ClassFile.FieldType.int)) ∈ zbig := zm6 169 rfl rfl
set_option maxRecDepth 10000 in
theorem tw_1450 : (Jvm.Cond.methodLink "NameNetsModel" (295 : Nat) ({ cls := "NameNetsModel", name := "ask", desc := "(III)I" } : Jvm.MethodName)) ∈ zbig := zm6 170 rfl rfl
set_option maxRecDepth 10000 in
theorem tw_1451 : (Jvm.Cond.methodLink "NameNetsModel" (298 : Nat) ({ cls := "NameNetsModel", name := "next", desc := "(II)I" } : Jvm.MethodName)) ∈ zbig := zm6 171 rfl rfl
set_option maxRecDepth 10000 in
theorem tw_1452 : (Jvm.Cond.methodLink "NameNetsModel" (301 : Nat) ({ cls := "NameNetsModel", name := "parted", desc := "(III)I" } : Jvm.MethodName)) ∈ zbig := zm6 172 rfl rfl
set_option maxRecDepth 10000 in
theorem tw_1453 : (Jvm.Cond.methodLink "NameNetsLaw" (132 : Nat) ({ cls := "NameNetsModel", name := "fault", desc := "()I" } : Jvm.MethodName)) ∈ zbig := zm6 173 rfl rfl
set_option maxRecDepth 10000 in
theorem tw_1454 : (Jvm.Cond.instanceMethod ({ cls := "NameNetsModel", name := "fault", desc := "()I" } : Jvm.MethodName)) ∈ zbig := zm6 174 rfl rfl
set_option maxRecDepth 10000 in
theorem tw_1455 : (Jvm.Cond.selects "NameNetsModel" ({ cls := "NameNetsModel", name := "fault", desc := "()I" } : Jvm.MethodName) ({ cls := "NameNetsModel", name := "fault", desc := "()I" } : Jvm.MethodName)) ∈ zbig := zm6 175 rfl rfl
set_option maxRecDepth 10000 in
theorem tw_1456 : (Jvm.Cond.code ({ cls := "NameNetsModel", name := "fault", desc := "()I" } : Jvm.MethodName) prog_12_method_77_code (1 : Nat) (Option.some Jvm.ClassFile.FieldType.int)) ∈ zbig := zm6 176 rfl rfl
set_option maxRecDepth 10000 in
theorem tw_1457 : (Jvm.Cond.methodLink "NameNetsLaw" (136 : Nat) ({ cls := "NameNetsModel", name := "said", desc := "(I)I" } : Jvm.MethodName)) ∈ zbig := zm6 177 rfl rfl
set_option maxRecDepth 10000 in
theorem tw_1458 : (Jvm.Cond.instanceMethod ({ cls := "NameNetsModel", name := "said", desc := "(I)I" } : Jvm.MethodName)) ∈ zbig := zm6 178 rfl rfl
set_option maxRecDepth 10000 in
theorem tw_1459 : (Jvm.Cond.selects "NameNetsModel" ({ cls := "NameNetsModel", name := "said", desc := "(I)I" } : Jvm.MethodName) ({ cls := "NameNetsModel", name := "said", desc := "(I)I" } : Jvm.MethodName)) ∈ zbig := zm6 179 rfl rfl
set_option maxRecDepth 10000 in
theorem tw_1460 : (Jvm.Cond.code ({ cls := "NameNetsModel", name := "said", desc := "(I)I" } : Jvm.MethodName) prog_12_method_78_code (2 : Nat) (Option.some Jvm.ClassFile.FieldType.int)) ∈ zbig := zm6 180 rfl rfl
set_option maxRecDepth 10000 in
theorem tw_1461 : (Jvm.Cond.constantLong "NameNetsLaw" (118 : Nat) (4294967295 : Int64)) ∈ zbig := zm6 181 rfl rfl
set_option maxRecDepth 10000 in
theorem tw_1462 : (Jvm.Cond.fieldLink "java/lang/String" (9 : Nat) "java/lang/String" "value" "[B") ∈ zbig := zm6 182 rfl rfl
set_option maxRecDepth 10000 in
theorem tw_1463 : (Jvm.Cond.fieldLink "java/lang/String" (15 : Nat) "java/lang/String" "coder" "B") ∈ zbig := zm6 183 rfl rfl
theorem zki0 : ∀ w ∈ u_ws RX0 TX0 5, w ∈ lw_tbl := by decide +kernel
theorem zkg0 : ∀ w ∈ u_ws RX0 TX0 5, goodWord w = true := by decide +kernel
theorem zk0 : zK 0 RX0 TX0 5 tyX0 := ⟨rfl, fun w hw => List.mem_filter.mpr ⟨zki0 w hw, zkg0 w hw⟩, tyX0_ok, nmX0, by decide, rfl⟩
theorem zki1 : ∀ w ∈ u_ws RX1 TX1 10, w ∈ lw_tbl := by decide +kernel
theorem zkg1 : ∀ w ∈ u_ws RX1 TX1 10, goodWord w = true := by decide +kernel
theorem zk1 : zK 1 RX1 TX1 10 tyX1 := ⟨rfl, fun w hw => List.mem_filter.mpr ⟨zki1 w hw, zkg1 w hw⟩, tyX1_ok, nmX1, by decide, rfl⟩
theorem zki2 : ∀ w ∈ u_ws RX2 TX2 5, w ∈ lw_tbl := by decide +kernel
theorem zkg2 : ∀ w ∈ u_ws RX2 TX2 5, goodWord w = true := by decide +kernel
theorem zk2 : zK 2 RX2 TX2 5 tyX2 := ⟨rfl, fun w hw => List.mem_filter.mpr ⟨zki2 w hw, zkg2 w hw⟩, tyX2_ok, nmX2, by decide, rfl⟩
theorem zki3 : ∀ w ∈ u_ws RX3 TX3 6, w ∈ lw_tbl := by decide +kernel
theorem zkg3 : ∀ w ∈ u_ws RX3 TX3 6, goodWord w = true := by decide +kernel
theorem zk3 : zK 3 RX3 TX3 6 tyX3 := ⟨rfl, fun w hw => List.mem_filter.mpr ⟨zki3 w hw, zkg3 w hw⟩, tyX3_ok, nmX3, by decide, rfl⟩
theorem zki4 : ∀ w ∈ u_ws RX4 TX4 3, w ∈ lw_tbl := by decide +kernel
theorem zkg4 : ∀ w ∈ u_ws RX4 TX4 3, goodWord w = true := by decide +kernel
theorem zk4 : zK 4 RX4 TX4 3 tyX4 := ⟨rfl, fun w hw => List.mem_filter.mpr ⟨zki4 w hw, zkg4 w hw⟩, tyX4_ok, nmX4, by decide, rfl⟩
theorem zki5 : ∀ w ∈ u_ws RX5 TX5 8, w ∈ lw_tbl := by decide +kernel
theorem zkg5 : ∀ w ∈ u_ws RX5 TX5 8, goodWord w = true := by decide +kernel
theorem zk5 : zK 5 RX5 TX5 8 tyX5 := ⟨rfl, fun w hw => List.mem_filter.mpr ⟨zki5 w hw, zkg5 w hw⟩, tyX5_ok, nmX5, by decide, rfl⟩
theorem zki6 : ∀ w ∈ u_ws RX6 TX6 13, w ∈ lw_tbl := by decide +kernel
theorem zkg6 : ∀ w ∈ u_ws RX6 TX6 13, goodWord w = true := by decide +kernel
theorem zk6 : zK 6 RX6 TX6 13 tyX6 := ⟨rfl, fun w hw => List.mem_filter.mpr ⟨zki6 w hw, zkg6 w hw⟩, tyX6_ok, nmX6, by decide, rfl⟩
theorem zki7 : ∀ w ∈ u_ws RX7 TX7 3, w ∈ lw_tbl := by decide +kernel
theorem zkg7 : ∀ w ∈ u_ws RX7 TX7 3, goodWord w = true := by decide +kernel
theorem zk7 : zK 7 RX7 TX7 3 tyX7 := ⟨rfl, fun w hw => List.mem_filter.mpr ⟨zki7 w hw, zkg7 w hw⟩, tyX7_ok, nmX7, by decide, rfl⟩
theorem zki8 : ∀ w ∈ u_ws RX8 TX8 14, w ∈ lw_tbl := by decide +kernel
theorem zkg8 : ∀ w ∈ u_ws RX8 TX8 14, goodWord w = true := by decide +kernel
theorem zk8 : zK 8 RX8 TX8 14 tyX8 := ⟨rfl, fun w hw => List.mem_filter.mpr ⟨zki8 w hw, zkg8 w hw⟩, tyX8_ok, nmX8, by decide, rfl⟩
theorem zki9 : ∀ w ∈ u_ws RX9 TX9 8, w ∈ lw_tbl := by decide +kernel
theorem zkg9 : ∀ w ∈ u_ws RX9 TX9 8, goodWord w = true := by decide +kernel
theorem zk9 : zK 9 RX9 TX9 8 tyX9 := ⟨rfl, fun w hw => List.mem_filter.mpr ⟨zki9 w hw, zkg9 w hw⟩, tyX9_ok, nmX9, by decide, rfl⟩
theorem zki10 : ∀ w ∈ u_ws RX10 TX10 40, w ∈ lw_tbl := by decide +kernel
theorem zkg10 : ∀ w ∈ u_ws RX10 TX10 40, goodWord w = true := by decide +kernel
theorem zk10 : zK 10 RX10 TX10 40 tyX10 := ⟨rfl, fun w hw => List.mem_filter.mpr ⟨zki10 w hw, zkg10 w hw⟩, tyX10_ok, nmX10, by decide, rfl⟩
theorem zc_J0_charAt_5068e : zcV yJ0_charAt_5068e cJ0_charAt_5068e 2 (some .char) 1 := ⟨⟨tw_96, tw_951, by decide +kernel⟩, tw_949, tw_950⟩
theorem zc_J0_checkIndex_df160 : zcS yJ0_checkIndex_df160 cJ0_checkIndex_df160 2 none 2 := ⟨⟨tw_96, tw_961, by decide +kernel⟩, tw_960⟩
theorem zc_J0_coder_7d493 : zcV yJ0_coder_7d493 cJ0_coder_7d493 1 (some .byte) 0 := ⟨⟨tw_96, tw_945, by decide +kernel⟩, tw_943, tw_944⟩
theorem zc_J0_isLatin1_aae02 : zcV yJ0_isLatin1_aae02 cJ0_isLatin1_aae02 1 (some .boolean) 0 := ⟨⟨tw_96, tw_955, by decide +kernel⟩, tw_953, tw_954⟩
theorem zc_J0_length_8abf5 : zcV yJ0_length_8abf5 cJ0_length_8abf5 1 (some .int) 0 := ⟨⟨tw_96, tw_941, by decide +kernel⟩, tw_939, tw_940⟩
theorem zc_J1_charAt_3b067 : zcS yJ1_charAt_3b067 cJ1_charAt_3b067 2 (some .char) 2 := ⟨⟨tw_97, tw_958, by decide +kernel⟩, tw_957⟩
theorem zc_J6_bitCount_0f7a4 : zcS yJ6_bitCount_0f7a4 cJ6_bitCount_0f7a4 1 (some .int) 1 := ⟨⟨tw_93, tw_555, by decide +kernel⟩, tw_554⟩
theorem zc_J7_fill_53178 : zcS yJ7_fill_53178 cJ7_fill_53178 4 none 2 := ⟨⟨tw_92, tw_466, by decide +kernel⟩, tw_465⟩
theorem zc_X0_fewest : zcV yX0_fewest cX0_fewest 7 (some .int) 2 := ⟨⟨tw_88, tw_812, by decide +kernel⟩, tw_810, tw_811⟩
theorem zc_X0_namesGiveNothing : zcV yX0_namesGiveNothing cX0_namesGiveNothing 4 (some .boolean) 1 := ⟨⟨tw_88, tw_689, by decide +kernel⟩, tw_688, tw_15⟩
theorem zc_X0_parts : zcV yX0_parts cX0_parts 7 (some .boolean) 3 := ⟨⟨tw_88, tw_683, by decide +kernel⟩, tw_681, tw_682⟩
theorem zc_X0_reach : zcV yX0_reach cX0_reach 8 (some .boolean) 2 := ⟨⟨tw_88, tw_831, by decide +kernel⟩, tw_830, tw_21⟩
theorem zc_X0_search : zcV yX0_search cX0_search 8 (some .int) 5 := ⟨⟨tw_88, tw_816, by decide +kernel⟩, tw_815, tw_20⟩
theorem zc_X0_separateWays : zcV yX0_separateWays cX0_separateWays 4 (some .int) 2 := ⟨⟨tw_88, tw_824, by decide +kernel⟩, tw_822, tw_823⟩
theorem zc_X0_takeWay : zcV yX0_takeWay cX0_takeWay 6 none 2 := ⟨⟨tw_88, tw_835, by decide +kernel⟩, tw_834, tw_22⟩
theorem zc_X10_answer : zcV yX10_answer cX10_answer 6 (some .int) 3 := ⟨⟨tw_91, tw_1328, by decide +kernel⟩, tw_1326, tw_1327⟩
theorem zc_X10_answerOf : zcV yX10_answerOf cX10_answerOf 5 (some .int) 2 := ⟨⟨tw_91, tw_1449, by decide +kernel⟩, tw_1448, tw_79⟩
theorem zc_X10_ask : zcV yX10_ask cX10_ask 4 (some .int) 3 := ⟨⟨tw_91, tw_1276, by decide +kernel⟩, tw_1274, tw_1275⟩
theorem zc_X10_bit : zcS yX10_bit cX10_bit 1 (some .int) 1 := ⟨⟨tw_91, tw_1198, by decide +kernel⟩, tw_1197⟩
theorem zc_X10_bits : zcV yX10_bits cX10_bits 6 (some .int) 2 := ⟨⟨tw_91, tw_1267, by decide +kernel⟩, tw_1265, tw_1266⟩
theorem zc_X10_bitsOf : zcV yX10_bitsOf cX10_bitsOf 4 (some .int) 2 := ⟨⟨tw_91, tw_1272, by decide +kernel⟩, tw_1271, tw_57⟩
theorem zc_X10_book : zcV yX10_book cX10_book 5 (some .int) 3 := ⟨⟨tw_91, tw_1324, by decide +kernel⟩, tw_1322, tw_1323⟩
theorem zc_X10_bookAt : zcV yX10_bookAt cX10_bookAt 3 (some .int) 2 := ⟨⟨tw_91, tw_1311, by decide +kernel⟩, tw_1310, tw_63⟩
theorem zc_X10_checkOf : zcV yX10_checkOf cX10_checkOf 6 (some .int) 2 := ⟨⟨tw_91, tw_1315, by decide +kernel⟩, tw_1314, tw_64⟩
theorem zc_X10_count : zcV yX10_count cX10_count 4 (some .int) 1 := ⟨⟨tw_91, tw_1183, by decide +kernel⟩, tw_1181, tw_1182⟩
theorem zc_X10_cut : zcV yX10_cut cX10_cut 8 (some .int) 2 := ⟨⟨tw_91, tw_1368, by decide +kernel⟩, tw_1366, tw_1367⟩
theorem zc_X10_damaged : zcV yX10_damaged cX10_damaged 4 (some .int) 1 := ⟨⟨tw_91, tw_1340, by decide +kernel⟩, tw_1338, tw_1339⟩
theorem zc_X10_degree : zcV yX10_degree cX10_degree 4 (some .int) 1 := ⟨⟨tw_91, tw_1195, by decide +kernel⟩, tw_1194, tw_43⟩
theorem zc_X10_farOf : zcV yX10_farOf cX10_farOf 7 (some .int) 2 := ⟨⟨tw_91, tw_1263, by decide +kernel⟩, tw_1262, tw_56⟩
theorem zc_X10_fault : zcV yX10_fault cX10_fault 1 (some .int) 0 := ⟨⟨tw_91, tw_1456, by decide +kernel⟩, tw_1454, tw_1455⟩
theorem zc_X10_feed : zcV yX10_feed cX10_feed 5 (some .int) 2 := ⟨⟨tw_91, tw_1411, by decide +kernel⟩, tw_1409, tw_1410⟩
theorem zc_X10_findHubs : zcV yX10_findHubs cX10_findHubs 3 none 0 := ⟨⟨tw_91, tw_1255, by decide +kernel⟩, tw_1254, tw_54⟩
theorem zc_X10_findNames : zcV yX10_findNames cX10_findNames 3 none 1 := ⟨⟨tw_91, tw_1235, by decide +kernel⟩, tw_1234, tw_49⟩
theorem zc_X10_findRanks : zcV yX10_findRanks cX10_findRanks 4 none 0 := ⟨⟨tw_91, tw_1210, by decide +kernel⟩, tw_1209, tw_45⟩
theorem zc_X10_findRows : zcV yX10_findRows cX10_findRows 4 none 0 := ⟨⟨tw_91, tw_1247, by decide +kernel⟩, tw_1246, tw_52⟩
theorem zc_X10_findSpans : zcV yX10_findSpans cX10_findSpans 3 none 0 := ⟨⟨tw_91, tw_1239, by decide +kernel⟩, tw_1238, tw_50⟩
theorem zc_X10_findTree : zcV yX10_findTree cX10_findTree 2 none 0 := ⟨⟨tw_91, tw_1187, by decide +kernel⟩, tw_1186, tw_41⟩
theorem zc_X10_findTurns : zcV yX10_findTurns cX10_findTurns 7 none 0 := ⟨⟨tw_91, tw_1206, by decide +kernel⟩, tw_1205, tw_44⟩
theorem zc_X10_findWays : zcV yX10_findWays cX10_findWays 5 none 1 := ⟨⟨tw_91, tw_1364, by decide +kernel⟩, tw_1363, tw_68⟩
theorem zc_X10_forge : zcV yX10_forge cX10_forge 6 (some .int) 4 := ⟨⟨tw_91, tw_1319, by decide +kernel⟩, tw_1317, tw_1318⟩
theorem zc_X10_goDown : zcV yX10_goDown cX10_goDown 8 (some .int) 2 := ⟨⟨tw_91, tw_1243, by decide +kernel⟩, tw_1242, tw_51⟩
theorem zc_X10_goFrom : zcV yX10_goFrom cX10_goFrom 7 none 1 := ⟨⟨tw_91, tw_1259, by decide +kernel⟩, tw_1258, tw_55⟩
theorem zc_X10_goes : zcV yX10_goes cX10_goes 3 (some .int) 2 := ⟨⟨tw_91, tw_1352, by decide +kernel⟩, tw_1350, tw_1351⟩
theorem zc_X10_goesOf : zcV yX10_goesOf cX10_goesOf 5 (some .int) 2 := ⟨⟨tw_91, tw_1356, by decide +kernel⟩, tw_1355, tw_67⟩
theorem zc_X10_grow : zcV yX10_grow cX10_grow 7 none 1 := ⟨⟨tw_91, tw_1191, by decide +kernel⟩, tw_1190, tw_42⟩
theorem zc_X10_here : zcV yX10_here cX10_here 1 (some .int) 0 := ⟨⟨tw_91, tw_1421, by decide +kernel⟩, tw_1420, tw_73⟩
theorem zc_X10_holds : zcV yX10_holds cX10_holds 5 (some .int) 4 := ⟨⟨tw_91, tw_1380, by decide +kernel⟩, tw_1378, tw_1379⟩
theorem zc_X10_holdsOne : zcV yX10_holdsOne cX10_holdsOne 8 (some .boolean) 4 := ⟨⟨tw_91, tw_1388, by decide +kernel⟩, tw_1387, tw_70⟩
theorem zc_X10_in : zcS yX10_in cX10_in 6 (some .boolean) 3 := ⟨⟨tw_91, tw_1155, by decide +kernel⟩, tw_1154⟩
theorem zc_X10_isDamaged : zcV yX10_isDamaged cX10_isDamaged 3 (some .boolean) 2 := ⟨⟨tw_91, tw_1332, by decide +kernel⟩, tw_1331, tw_65⟩
theorem zc_X10_isInBook : zcV yX10_isInBook cX10_isInBook 3 (some .boolean) 2 := ⟨⟨tw_91, tw_1307, by decide +kernel⟩, tw_1306, tw_62⟩
theorem zc_X10_isParted : zcV yX10_isParted cX10_isParted 10 (some .boolean) 3 := ⟨⟨tw_91, tw_1291, by decide +kernel⟩, tw_1290, tw_59⟩
theorem zc_X10_isPick : zcV yX10_isPick cX10_isPick 10 (some .boolean) 5 := ⟨⟨tw_91, tw_1392, by decide +kernel⟩, tw_1391, tw_71⟩
theorem zc_X10_isStale : zcV yX10_isStale cX10_isStale 7 (some .boolean) 2 := ⟨⟨tw_91, tw_1303, by decide +kernel⟩, tw_1302, tw_61⟩
theorem zc_X10_isTreeLine : zcV yX10_isTreeLine cX10_isTreeLine 4 (some .boolean) 1 := ⟨⟨tw_91, tw_1218, by decide +kernel⟩, tw_1217, tw_46⟩
theorem zc_X10_isUniversal : zcV yX10_isUniversal cX10_isUniversal 6 (some .boolean) 3 := ⟨⟨tw_91, tw_1403, by decide +kernel⟩, tw_1402, tw_72⟩
theorem zc_X10_isWord : zcV yX10_isWord cX10_isWord 10 (some .boolean) 7 := ⟨⟨tw_91, tw_1435, by decide +kernel⟩, tw_1434, tw_76⟩
theorem zc_X10_joined : zcS yX10_joined cX10_joined 5 (some .int) 3 := ⟨⟨tw_91, tw_1395, by decide +kernel⟩, tw_1394⟩
theorem zc_X10_learn : zcV yX10_learn cX10_learn 5 (some .int) 1 := ⟨⟨tw_91, tw_1295, by decide +kernel⟩, tw_1293, tw_1294⟩
theorem zc_X10_line : zcV yX10_line cX10_line 3 (some .int) 2 := ⟨⟨tw_91, tw_1163, by decide +kernel⟩, tw_1161, tw_1162⟩
theorem zc_X10_lineName : zcV yX10_lineName cX10_lineName 5 (some .int) 1 := ⟨⟨tw_91, tw_1222, by decide +kernel⟩, tw_1221, tw_47⟩
theorem zc_X10_lineOf : zcV yX10_lineOf cX10_lineOf 4 (some .int) 2 := ⟨⟨tw_91, tw_1171, by decide +kernel⟩, tw_1170, tw_39⟩
theorem zc_X10_lines : zcV yX10_lines cX10_lines 3 (some .int) 2 := ⟨⟨tw_91, tw_1214, by decide +kernel⟩, tw_1212, tw_1213⟩
theorem zc_X10_name : zcV yX10_name cX10_name 4 (some .int) 3 := ⟨⟨tw_91, tw_1230, by decide +kernel⟩, tw_1228, tw_1229⟩
theorem zc_X10_net : zcV yX10_net cX10_net 2 (some .int) 1 := ⟨⟨tw_91, tw_1151, by decide +kernel⟩, tw_1149, tw_1150⟩
theorem zc_X10_next : zcV yX10_next cX10_next 3 (some .int) 2 := ⟨⟨tw_91, tw_1344, by decide +kernel⟩, tw_1342, tw_1343⟩
theorem zc_X10_nextOf : zcV yX10_nextOf cX10_nextOf 5 (some .int) 2 := ⟨⟨tw_91, tw_1348, by decide +kernel⟩, tw_1347, tw_66⟩
theorem zc_X10_noLine : zcV yX10_noLine cX10_noLine 2 (some .boolean) 1 := ⟨⟨tw_91, tw_1179, by decide +kernel⟩, tw_1178, tw_40⟩
theorem zc_X10_noPost : zcV yX10_noPost cX10_noPost 2 (some .boolean) 1 := ⟨⟨tw_91, tw_1167, by decide +kernel⟩, tw_1166, tw_38⟩
theorem zc_X10_oneMore : zcV yX10_oneMore cX10_oneMore 10 (some .boolean) 2 := ⟨⟨tw_91, tw_1376, by decide +kernel⟩, tw_1375, tw_69⟩
theorem zc_X10_ones : zcS yX10_ones cX10_ones 3 (some .int) 1 := ⟨⟨tw_91, tw_1287, by decide +kernel⟩, tw_1286⟩
theorem zc_X10_pairs : zcS yX10_pairs cX10_pairs 1 (some .int) 1 := ⟨⟨tw_91, tw_1384, by decide +kernel⟩, tw_1383⟩
theorem zc_X10_parted : zcV yX10_parted cX10_parted 4 (some .int) 3 := ⟨⟨tw_91, tw_1284, by decide +kernel⟩, tw_1282, tw_1283⟩
theorem zc_X10_post : zcV yX10_post cX10_post 1 (some .int) 0 := ⟨⟨tw_91, tw_1159, by decide +kernel⟩, tw_1157, tw_1158⟩
theorem zc_X10_put : zcV yX10_put cX10_put 3 none 2 := ⟨⟨tw_91, tw_1251, by decide +kernel⟩, tw_1250, tw_53⟩
theorem zc_X10_read : zcV yX10_read cX10_read 2 (some .int) 0 := ⟨⟨tw_91, tw_1417, by decide +kernel⟩, tw_1415, tw_1416⟩
theorem zc_X10_readQuestion : zcV yX10_readQuestion cX10_readQuestion 5 none 0 := ⟨⟨tw_91, tw_1425, by decide +kernel⟩, tw_1424, tw_74⟩
theorem zc_X10_said : zcV yX10_said cX10_said 2 (some .int) 1 := ⟨⟨tw_91, tw_1460, by decide +kernel⟩, tw_1458, tw_1459⟩
theorem zc_X10_sayOf : zcV yX10_sayOf cX10_sayOf 6 (some .int) 3 := ⟨⟨tw_91, tw_1280, by decide +kernel⟩, tw_1279, tw_58⟩
theorem zc_X10_small : zcV yX10_small cX10_small 4 (some .int) 0 := ⟨⟨tw_91, tw_1407, by decide +kernel⟩, tw_1405, tw_1406⟩
theorem zc_X10_stale : zcV yX10_stale cX10_stale 2 (some .int) 1 := ⟨⟨tw_91, tw_1336, by decide +kernel⟩, tw_1334, tw_1335⟩
theorem zc_X10_staleSet : zcV yX10_staleSet cX10_staleSet 4 (some .int) 1 := ⟨⟨tw_91, tw_1299, by decide +kernel⟩, tw_1298, tw_60⟩
theorem zc_X10_stretch : zcV yX10_stretch cX10_stretch 9 (some .int) 1 := ⟨⟨tw_91, tw_1360, by decide +kernel⟩, tw_1358, tw_1359⟩
theorem zc_X10_strike : zcV yX10_strike cX10_strike 3 (some .int) 1 := ⟨⟨tw_91, tw_1175, by decide +kernel⟩, tw_1173, tw_1174⟩
theorem zc_X10_takeNumber : zcV yX10_takeNumber cX10_takeNumber 6 none 1 := ⟨⟨tw_91, tw_1443, by decide +kernel⟩, tw_1442, tw_78⟩
theorem zc_X10_takeQuestion : zcV yX10_takeQuestion cX10_takeQuestion 2 (some .int) 0 := ⟨⟨tw_91, tw_1429, by decide +kernel⟩, tw_1428, tw_75⟩
theorem zc_X10_told : zcV yX10_told cX10_told 3 (some .int) 2 := ⟨⟨tw_91, tw_1202, by decide +kernel⟩, tw_1200, tw_1201⟩
theorem zc_X10_universal : zcV yX10_universal cX10_universal 7 (some .int) 3 := ⟨⟨tw_91, tw_1399, by decide +kernel⟩, tw_1397, tw_1398⟩
theorem zc_X10_want : zcV yX10_want cX10_want 4 (some .boolean) 3 := ⟨⟨tw_91, tw_1439, by decide +kernel⟩, tw_1438, tw_77⟩
theorem zc_X10_wayUp : zcV yX10_wayUp cX10_wayUp 4 (some .int) 1 := ⟨⟨tw_91, tw_1226, by decide +kernel⟩, tw_1225, tw_48⟩
theorem zc_X10_ways : zcV yX10_ways cX10_ways 4 (some .int) 2 := ⟨⟨tw_91, tw_1372, by decide +kernel⟩, tw_1370, tw_1371⟩
theorem zc_X1_fewestLines : zcV yX1_fewestLines cX1_fewestLines 6 (some .int) 1 := ⟨⟨tw_84, tw_602, by decide +kernel⟩, tw_601, tw_8⟩
theorem zc_X1_mostLines : zcV yX1_mostLines cX1_mostLines 5 (some .int) 1 := ⟨⟨tw_84, tw_612, by decide +kernel⟩, tw_611, tw_10⟩
theorem zc_X1_nameAbove : zcV yX1_nameAbove cX1_nameAbove 4 none 1 := ⟨⟨tw_84, tw_589, by decide +kernel⟩, tw_588, tw_6⟩
theorem zc_X1_nameFar : zcV yX1_nameFar cX1_nameFar 5 none 1 := ⟨⟨tw_84, tw_608, by decide +kernel⟩, tw_607, tw_9⟩
theorem zc_X1_nameJoined : zcV yX1_nameJoined cX1_nameJoined 5 none 1 := ⟨⟨tw_84, tw_598, by decide +kernel⟩, tw_597, tw_7⟩
theorem zc_X1_now : zcV yX1_now cX1_now 3 (some (.object "NameNets$Names")) 1 := ⟨⟨tw_84, tw_580, by decide +kernel⟩, tw_578, tw_579⟩
theorem zc_X1_rankOf : zcV yX1_rankOf cX1_rankOf 2 (some .int) 1 := ⟨⟨tw_84, tw_632, by decide +kernel⟩, tw_630, tw_631⟩
theorem zc_X1_spread : zcV yX1_spread cX1_spread 9 none 2 := ⟨⟨tw_84, tw_617, by decide +kernel⟩, tw_616, tw_11⟩
theorem zc_X1_turnOf : zcV yX1_turnOf cX1_turnOf 2 (some .int) 1 := ⟨⟨tw_84, tw_576, by decide +kernel⟩, tw_574, tw_575⟩
theorem zc_X2_append : zcV yX2_append cX2_append 3 none 2 := ⟨⟨tw_85, tw_594, by decide +kernel⟩, tw_592, tw_593⟩
theorem zc_X2_begin : zcV yX2_begin cX2_begin 2 none 1 := ⟨⟨tw_85, tw_584, by decide +kernel⟩, tw_582, tw_583⟩
theorem zc_X2_copy : zcV yX2_copy cX2_copy 4 none 1 := ⟨⟨tw_85, tw_710, by decide +kernel⟩, tw_708, tw_709⟩
theorem zc_X2_distance : zcV yX2_distance cX2_distance 7 (some .int) 2 := ⟨⟨tw_85, tw_621, by decide +kernel⟩, tw_619, tw_620⟩
theorem zc_X2_has : zcV yX2_has cX2_has 3 (some .boolean) 2 := ⟨⟨tw_85, tw_729, by decide +kernel⟩, tw_727, tw_728⟩
theorem zc_X2_isAbove : zcV yX2_isAbove cX2_isAbove 4 (some .boolean) 2 := ⟨⟨tw_85, tw_665, by decide +kernel⟩, tw_664, tw_13⟩
theorem zc_X2_isLike : zcV yX2_isLike cX2_isLike 4 (some .boolean) 2 := ⟨⟨tw_85, tw_702, by decide +kernel⟩, tw_700, tw_701⟩
theorem zc_X2_number : zcV yX2_number cX2_number 3 (some .int) 2 := ⟨⟨tw_85, tw_625, by decide +kernel⟩, tw_623, tw_624⟩
theorem zc_X2_put : zcV yX2_put cX2_put 4 none 3 := ⟨⟨tw_85, tw_733, by decide +kernel⟩, tw_731, tw_732⟩
theorem zc_X2_reply : zcV yX2_reply cX2_reply 3 (some .int) 2 := ⟨⟨tw_85, tw_661, by decide +kernel⟩, tw_659, tw_660⟩
theorem zc_X2_standsBehind : zcV yX2_standsBehind cX2_standsBehind 5 (some .boolean) 2 := ⟨⟨tw_85, tw_669, by decide +kernel⟩, tw_668, tw_14⟩
theorem zc_X3_addLine : zcV yX3_addLine cX3_addLine 3 (some .int) 2 := ⟨⟨tw_82, tw_494, by decide +kernel⟩, tw_492, tw_493⟩
theorem zc_X3_addPost : zcV yX3_addPost cX3_addPost 1 (some .int) 0 := ⟨⟨tw_82, tw_474, by decide +kernel⟩, tw_472, tw_473⟩
theorem zc_X3_begin : zcV yX3_begin cX3_begin 2 none 1 := ⟨⟨tw_82, tw_463, by decide +kernel⟩, tw_461, tw_462⟩
theorem zc_X3_degree : zcV yX3_degree cX3_degree 2 (some .int) 1 := ⟨⟨tw_82, tw_552, by decide +kernel⟩, tw_550, tw_551⟩
theorem zc_X3_hasLine : zcV yX3_hasLine cX3_hasLine 2 (some .boolean) 1 := ⟨⟨tw_82, tw_502, by decide +kernel⟩, tw_500, tw_501⟩
theorem zc_X3_hasLines : zcV yX3_hasLines cX3_hasLines 2 (some .boolean) 1 := ⟨⟨tw_82, tw_678, by decide +kernel⟩, tw_676, tw_677⟩
theorem zc_X3_hasPost : zcV yX3_hasPost cX3_hasPost 2 (some .boolean) 1 := ⟨⟨tw_82, tw_486, by decide +kernel⟩, tw_484, tw_485⟩
theorem zc_X3_hasPosts : zcV yX3_hasPosts cX3_hasPosts 3 (some .boolean) 2 := ⟨⟨tw_82, tw_482, by decide +kernel⟩, tw_480, tw_481⟩
theorem zc_X3_joins : zcV yX3_joins cX3_joins 3 (some .boolean) 2 := ⟨⟨tw_82, tw_490, by decide +kernel⟩, tw_488, tw_489⟩
theorem zc_X3_lineBetween : zcV yX3_lineBetween cX3_lineBetween 4 (some .int) 2 := ⟨⟨tw_82, tw_531, by decide +kernel⟩, tw_529, tw_530⟩
theorem zc_X3_mostLines : zcV yX3_mostLines cX3_mostLines 3 (some .int) 0 := ⟨⟨tw_82, tw_548, by decide +kernel⟩, tw_546, tw_547⟩
theorem zc_X3_removeLine : zcV yX3_removeLine cX3_removeLine 3 none 1 := ⟨⟨tw_82, tw_506, by decide +kernel⟩, tw_504, tw_505⟩
theorem zc_X4_checkOf : zcV yX4_checkOf cX4_checkOf 4 (some .int) 1 := ⟨⟨tw_86, tw_716, by decide +kernel⟩, tw_715, tw_16⟩
theorem zc_X4_has : zcV yX4_has cX4_has 2 (some .boolean) 1 := ⟨⟨tw_86, tw_725, by decide +kernel⟩, tw_723, tw_724⟩
theorem zc_X4_isRight : zcV yX4_isRight cX4_isRight 2 (some .boolean) 1 := ⟨⟨tw_86, tw_746, by decide +kernel⟩, tw_744, tw_745⟩
theorem zc_X4_take : zcV yX4_take cX4_take 3 none 1 := ⟨⟨tw_86, tw_706, by decide +kernel⟩, tw_704, tw_705⟩
theorem zc_X4_unlike : zcV yX4_unlike cX4_unlike 4 (some .int) 1 := ⟨⟨tw_86, tw_697, by decide +kernel⟩, tw_695, tw_696⟩
theorem zc_X4_wrongChecks : zcV yX4_wrongChecks cX4_wrongChecks 3 (some .int) 0 := ⟨⟨tw_86, tw_758, by decide +kernel⟩, tw_756, tw_757⟩
theorem zc_X5_findStretch : zcV yX5_findStretch cX5_findStretch 5 none 1 := ⟨⟨tw_87, tw_794, by decide +kernel⟩, tw_793, tw_17⟩
theorem zc_X5_fresh : zcV yX5_fresh cX5_fresh 1 (some (.object "NameNets$Parcels")) 0 := ⟨⟨tw_87, tw_789, by decide +kernel⟩, tw_787, tw_788⟩
theorem zc_X5_length : zcV yX5_length cX5_length 4 (some .int) 2 := ⟨⟨tw_87, tw_780, by decide +kernel⟩, tw_778, tw_779⟩
theorem zc_X5_offer : zcV yX5_offer cX5_offer 5 none 4 := ⟨⟨tw_87, tw_800, by decide +kernel⟩, tw_799, tw_18⟩
theorem zc_X5_reduce : zcV yX5_reduce cX5_reduce 2 none 0 := ⟨⟨tw_87, tw_804, by decide +kernel⟩, tw_803, tw_19⟩
theorem zc_X5_step : zcV yX5_step cX5_step 5 (some .int) 2 := ⟨⟨tw_87, tw_767, by decide +kernel⟩, tw_765, tw_766⟩
theorem zc_X6_append : zcV yX6_append cX6_append 5 (some .int) 2 := ⟨⟨tw_90, tw_901, by decide +kernel⟩, tw_899, tw_900⟩
theorem zc_X6_fail : zcV yX6_fail cX6_fail 3 none 2 := ⟨⟨tw_90, tw_989, by decide +kernel⟩, tw_988, tw_32⟩
theorem zc_X6_isFigure : zcV yX6_isFigure cX6_isFigure 2 (some .boolean) 1 := ⟨⟨tw_90, tw_997, by decide +kernel⟩, tw_996, tw_34⟩
theorem zc_X6_isLetter : zcV yX6_isLetter cX6_isLetter 2 (some .boolean) 1 := ⟨⟨tw_90, tw_925, by decide +kernel⟩, tw_924, tw_30⟩
theorem zc_X6_isWord : zcV yX6_isWord cX6_isWord 4 (some .boolean) 2 := ⟨⟨tw_90, tw_937, by decide +kernel⟩, tw_936, tw_31⟩
theorem zc_X6_keep : zcV yX6_keep cX6_keep 3 none 2 := ⟨⟨tw_90, tw_1007, by decide +kernel⟩, tw_1006, tw_36⟩
theorem zc_X6_readAll : zcV yX6_readAll cX6_readAll 2 (some .int) 0 := ⟨⟨tw_90, tw_909, by decide +kernel⟩, tw_907, tw_908⟩
theorem zc_X6_readNumber : zcV yX6_readNumber cX6_readNumber 4 none 1 := ⟨⟨tw_90, tw_1001, by decide +kernel⟩, tw_1000, tw_35⟩
theorem zc_X6_readNumbers : zcV yX6_readNumbers cX6_readNumbers 3 none 1 := ⟨⟨tw_90, tw_993, by decide +kernel⟩, tw_992, tw_33⟩
theorem zc_X6_readQuestion : zcV yX6_readQuestion cX6_readQuestion 3 none 0 := ⟨⟨tw_90, tw_917, by decide +kernel⟩, tw_916, tw_28⟩
theorem zc_X6_readWord : zcV yX6_readWord cX6_readWord 3 (some .int) 0 := ⟨⟨tw_90, tw_921, by decide +kernel⟩, tw_920, tw_29⟩
theorem zc_X6_skipBlanks : zcV yX6_skipBlanks cX6_skipBlanks 1 none 0 := ⟨⟨tw_90, tw_913, by decide +kernel⟩, tw_912, tw_27⟩
theorem zc_X6_wordFor : zcS yX6_wordFor cX6_wordFor 1 (some (.object "java/lang/String")) 1 := ⟨⟨tw_90, tw_928, by decide +kernel⟩, tw_927⟩
theorem zc_X7_chooseGroups : zcV yX7_chooseGroups cX7_chooseGroups 4 none 2 := ⟨⟨tw_89, tw_874, by decide +kernel⟩, tw_873, tw_25⟩
theorem zc_X7_contains : zcV yX7_contains cX7_contains 5 (some .boolean) 4 := ⟨⟨tw_89, tw_849, by decide +kernel⟩, tw_847, tw_848⟩
theorem zc_X7_countUniversal : zcV yX7_countUniversal cX7_countUniversal 5 (some .int) 2 := ⟨⟨tw_89, tw_870, by decide +kernel⟩, tw_868, tw_869⟩
theorem zc_X7_fits : zcV yX7_fits cX7_fits 6 (some .boolean) 3 := ⟨⟨tw_89, tw_857, by decide +kernel⟩, tw_856, tw_24⟩
theorem zc_X7_isOne : zcS yX7_isOne cX7_isOne 2 (some .boolean) 2 := ⟨⟨tw_89, tw_842, by decide +kernel⟩, tw_841⟩
theorem zc_X7_isUniversal : zcV yX7_isUniversal cX7_isUniversal 5 (some .boolean) 2 := ⟨⟨tw_89, tw_882, by decide +kernel⟩, tw_881, tw_26⟩
theorem zc_X7_leastUniversal : zcV yX7_leastUniversal cX7_leastUniversal 4 (some .int) 2 := ⟨⟨tw_89, tw_886, by decide +kernel⟩, tw_884, tw_885⟩
theorem zc_X7_numberOf : zcS yX7_numberOf cX7_numberOf 3 (some .int) 1 := ⟨⟨tw_89, tw_893, by decide +kernel⟩, tw_892⟩
theorem zc_X7_pairBit : zcS yX7_pairBit cX7_pairBit 2 (some .int) 2 := ⟨⟨tw_89, tw_860, by decide +kernel⟩, tw_859⟩
theorem zc_X7_pairs : zcS yX7_pairs cX7_pairs 1 (some .int) 1 := ⟨⟨tw_89, tw_845, by decide +kernel⟩, tw_844⟩
theorem zc_X7_pairsWithin : zcS yX7_pairsWithin cX7_pairsWithin 4 (some .int) 1 := ⟨⟨tw_89, tw_878, by decide +kernel⟩, tw_877⟩
theorem zc_X7_seat : zcV yX7_seat cX7_seat 7 (some .boolean) 5 := ⟨⟨tw_89, tw_853, by decide +kernel⟩, tw_852, tw_23⟩
theorem zc_X8_clear : zcV yX8_clear cX8_clear 1 none 0 := ⟨⟨tw_83, tw_518, by decide +kernel⟩, tw_517, tw_0⟩
theorem zc_X8_depth : zcV yX8_depth cX8_depth 2 (some .int) 1 := ⟨⟨tw_83, tw_571, by decide +kernel⟩, tw_569, tw_570⟩
theorem zc_X8_fresh : zcV yX8_fresh cX8_fresh 2 (some (.object "NameNets$Tree")) 0 := ⟨⟨tw_83, tw_514, by decide +kernel⟩, tw_512, tw_513⟩
theorem zc_X8_growFrom : zcV yX8_growFrom cX8_growFrom 7 none 1 := ⟨⟨tw_83, tw_522, by decide +kernel⟩, tw_521, tw_1⟩
theorem zc_X8_isAbove : zcV yX8_isAbove cX8_isAbove 3 (some .boolean) 2 := ⟨⟨tw_83, tw_772, by decide +kernel⟩, tw_770, tw_771⟩
theorem zc_X8_nameLines : zcV yX8_nameLines cX8_nameLines 4 none 0 := ⟨⟨tw_83, tw_540, by decide +kernel⟩, tw_539, tw_4⟩
theorem zc_X8_numberPosts : zcV yX8_numberPosts cX8_numberPosts 5 none 0 := ⟨⟨tw_83, tw_535, by decide +kernel⟩, tw_534, tw_3⟩
theorem zc_X8_place : zcV yX8_place cX8_place 2 none 1 := ⟨⟨tw_83, tw_526, by decide +kernel⟩, tw_525, tw_2⟩
theorem zc_X9_answer : zcV yX9_answer cX9_answer 5 (some .int) 3 := ⟨⟨tw_81, tw_742, by decide +kernel⟩, tw_740, tw_741⟩
theorem zc_X9_ask : zcV yX9_ask cX9_ask 4 (some .int) 3 := ⟨⟨tw_81, tw_657, by decide +kernel⟩, tw_655, tw_656⟩
theorem zc_X9_bits : zcV yX9_bits cX9_bits 8 (some .int) 2 := ⟨⟨tw_81, tw_649, by decide +kernel⟩, tw_647, tw_648⟩
theorem zc_X9_bitsOf : zcV yX9_bitsOf cX9_bitsOf 5 (some .int) 2 := ⟨⟨tw_81, tw_653, by decide +kernel⟩, tw_652, tw_12⟩
theorem zc_X9_book : zcV yX9_book cX9_book 5 (some .int) 3 := ⟨⟨tw_81, tw_738, by decide +kernel⟩, tw_736, tw_737⟩
theorem zc_X9_count : zcV yX9_count cX9_count 2 (some .int) 1 := ⟨⟨tw_81, tw_510, by decide +kernel⟩, tw_508, tw_509⟩
theorem zc_X9_cut : zcV yX9_cut cX9_cut 3 (some .int) 2 := ⟨⟨tw_81, tw_808, by decide +kernel⟩, tw_806, tw_807⟩
theorem zc_X9_damaged : zcV yX9_damaged cX9_damaged 2 (some .int) 1 := ⟨⟨tw_81, tw_754, by decide +kernel⟩, tw_752, tw_753⟩
theorem zc_X9_fault : zcV yX9_fault cX9_fault 1 (some .int) 0 := ⟨⟨tw_81, tw_1015, by decide +kernel⟩, tw_1013, tw_1014⟩
theorem zc_X9_feed : zcV yX9_feed cX9_feed 4 (some .int) 2 := ⟨⟨tw_81, tw_897, by decide +kernel⟩, tw_895, tw_896⟩
theorem zc_X9_forge : zcV yX9_forge cX9_forge 7 (some .int) 4 := ⟨⟨tw_81, tw_721, by decide +kernel⟩, tw_719, tw_720⟩
theorem zc_X9_goes : zcV yX9_goes cX9_goes 3 (some .int) 2 := ⟨⟨tw_81, tw_776, by decide +kernel⟩, tw_774, tw_775⟩
theorem zc_X9_holds : zcV yX9_holds cX9_holds 5 (some .int) 4 := ⟨⟨tw_81, tw_839, by decide +kernel⟩, tw_837, tw_838⟩
theorem zc_X9_isNamedKind : zcS yX9_isNamedKind cX9_isNamedKind 1 (some .boolean) 1 := ⟨⟨tw_81, tw_643, by decide +kernel⟩, tw_642⟩
theorem zc_X9_kindsLearned : zcV yX9_kindsLearned cX9_kindsLearned 3 (some .int) 0 := ⟨⟨tw_81, tw_544, by decide +kernel⟩, tw_543, tw_5⟩
theorem zc_X9_learn : zcV yX9_learn cX9_learn 4 (some .int) 1 := ⟨⟨tw_81, tw_693, by decide +kernel⟩, tw_691, tw_692⟩
theorem zc_X9_line : zcV yX9_line cX9_line 3 (some .int) 2 := ⟨⟨tw_81, tw_478, by decide +kernel⟩, tw_476, tw_477⟩
theorem zc_X9_lines : zcV yX9_lines cX9_lines 3 (some .int) 2 := ⟨⟨tw_81, tw_636, by decide +kernel⟩, tw_634, tw_635⟩
theorem zc_X9_name : zcV yX9_name cX9_name 4 (some .int) 3 := ⟨⟨tw_81, tw_640, by decide +kernel⟩, tw_638, tw_639⟩
theorem zc_X9_net : zcV yX9_net cX9_net 2 (some .int) 1 := ⟨⟨tw_81, tw_459, by decide +kernel⟩, tw_457, tw_458⟩
theorem zc_X9_next : zcV yX9_next cX9_next 3 (some .int) 2 := ⟨⟨tw_81, tw_763, by decide +kernel⟩, tw_761, tw_762⟩
theorem zc_X9_parted : zcV yX9_parted cX9_parted 4 (some .int) 3 := ⟨⟨tw_81, tw_674, by decide +kernel⟩, tw_672, tw_673⟩
theorem zc_X9_post : zcV yX9_post cX9_post 1 (some .int) 0 := ⟨⟨tw_81, tw_470, by decide +kernel⟩, tw_468, tw_469⟩
theorem zc_X9_read : zcV yX9_read cX9_read 3 (some .int) 0 := ⟨⟨tw_81, tw_905, by decide +kernel⟩, tw_903, tw_904⟩
theorem zc_X9_replyTo : zcV yX9_replyTo cX9_replyTo 5 (some .int) 4 := ⟨⟨tw_81, tw_1011, by decide +kernel⟩, tw_1010, tw_37⟩
theorem zc_X9_said : zcV yX9_said cX9_said 2 (some .int) 1 := ⟨⟨tw_81, tw_1019, by decide +kernel⟩, tw_1017, tw_1018⟩
theorem zc_X9_small : zcV yX9_small cX9_small 1 (some .int) 0 := ⟨⟨tw_81, tw_890, by decide +kernel⟩, tw_888, tw_889⟩
theorem zc_X9_stale : zcV yX9_stale cX9_stale 2 (some .int) 1 := ⟨⟨tw_81, tw_750, by decide +kernel⟩, tw_748, tw_749⟩
theorem zc_X9_stretch : zcV yX9_stretch cX9_stretch 2 (some .int) 1 := ⟨⟨tw_81, tw_785, by decide +kernel⟩, tw_783, tw_784⟩
theorem zc_X9_strike : zcV yX9_strike cX9_strike 2 (some .int) 1 := ⟨⟨tw_81, tw_498, by decide +kernel⟩, tw_496, tw_497⟩
theorem zc_X9_told : zcV yX9_told cX9_told 3 (some .int) 2 := ⟨⟨tw_81, tw_565, by decide +kernel⟩, tw_563, tw_564⟩
theorem zc_X9_universal : zcV yX9_universal cX9_universal 4 (some .int) 3 := ⟨⟨tw_81, tw_866, by decide +kernel⟩, tw_864, tw_865⟩
theorem zc_X9_ways : zcV yX9_ways cX9_ways 3 (some .int) 2 := ⟨⟨tw_81, tw_820, by decide +kernel⟩, tw_818, tw_819⟩
theorem zc_J3_checkIndex_8e157 : zcS yJ3_checkIndex_8e157 cJ3_checkIndex_8e157 3 (some .int) 3 := ⟨⟨tw_98, tw_966, by decide +kernel⟩, tw_965⟩
