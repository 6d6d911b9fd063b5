theorem se_X3_goesDeeper : Cond.selects yX3_goesDeeper.cls yX3_goesDeeper yX3_goesDeeper ∈ gtbl := gtbl_of (List.mem_append_left _ (List.mem_of_getElem? (i := 50) (by decide +kernel))) rfl
theorem cd_X4_init : Cond.code yX4_init cX4_init 2 none ∈ gtbl := gtbl_of (List.mem_append_right _ (List.mem_of_getElem? (i := 239) (by decide +kernel))) rfl
theorem im_X4_init : Cond.instanceMethod yX4_init ∈ gtbl := gtbl_of (List.mem_append_right _ (List.mem_of_getElem? (i := 238) (by decide +kernel))) rfl
theorem cd_X4_begin : Cond.code yX4_begin cX4_begin 3 none ∈ gtbl := gtbl_of (List.mem_append_right _ (List.mem_of_getElem? (i := 244) (by decide +kernel))) rfl
theorem im_X4_begin : Cond.instanceMethod yX4_begin ∈ gtbl := gtbl_of (List.mem_append_right _ (List.mem_of_getElem? (i := 242) (by decide +kernel))) rfl
theorem se_X4_begin : Cond.selects yX4_begin.cls yX4_begin yX4_begin ∈ gtbl := gtbl_of (List.mem_append_right _ (List.mem_of_getElem? (i := 243) (by decide +kernel))) rfl
theorem cd_X4_copyFrom : Cond.code yX4_copyFrom cX4_copyFrom 3 none ∈ gtbl := gtbl_of (List.mem_append_right _ (List.mem_of_getElem? (i := 800) (by decide +kernel))) rfl
theorem im_X4_copyFrom : Cond.instanceMethod yX4_copyFrom ∈ gtbl := gtbl_of (List.mem_append_right _ (List.mem_of_getElem? (i := 798) (by decide +kernel))) rfl
theorem se_X4_copyFrom : Cond.selects yX4_copyFrom.cls yX4_copyFrom yX4_copyFrom ∈ gtbl := gtbl_of (List.mem_append_right _ (List.mem_of_getElem? (i := 799) (by decide +kernel))) rfl
theorem cd_X4_heightAt : Cond.code yX4_heightAt cX4_heightAt 2 (some .int) ∈ gtbl := gtbl_of (List.mem_append_right _ (List.mem_of_getElem? (i := 433) (by decide +kernel))) rfl
theorem im_X4_heightAt : Cond.instanceMethod yX4_heightAt ∈ gtbl := gtbl_of (List.mem_append_right _ (List.mem_of_getElem? (i := 431) (by decide +kernel))) rfl
theorem se_X4_heightAt : Cond.selects yX4_heightAt.cls yX4_heightAt yX4_heightAt ∈ gtbl := gtbl_of (List.mem_append_right _ (List.mem_of_getElem? (i := 432) (by decide +kernel))) rfl
theorem cd_X4_hasProp : Cond.code yX4_hasProp cX4_hasProp 2 (some .boolean) ∈ gtbl := gtbl_of (List.mem_append_right _ (List.mem_of_getElem? (i := 441) (by decide +kernel))) rfl
theorem im_X4_hasProp : Cond.instanceMethod yX4_hasProp ∈ gtbl := gtbl_of (List.mem_append_right _ (List.mem_of_getElem? (i := 439) (by decide +kernel))) rfl
theorem se_X4_hasProp : Cond.selects yX4_hasProp.cls yX4_hasProp yX4_hasProp ∈ gtbl := gtbl_of (List.mem_append_right _ (List.mem_of_getElem? (i := 440) (by decide +kernel))) rfl
theorem cd_X4_topOf : Cond.code yX4_topOf cX4_topOf 2 (some .int) ∈ gtbl := gtbl_of (List.mem_append_right _ (List.mem_of_getElem? (i := 469) (by decide +kernel))) rfl
theorem im_X4_topOf : Cond.instanceMethod yX4_topOf ∈ gtbl := gtbl_of (List.mem_append_right _ (List.mem_of_getElem? (i := 467) (by decide +kernel))) rfl
theorem se_X4_topOf : Cond.selects yX4_topOf.cls yX4_topOf yX4_topOf ∈ gtbl := gtbl_of (List.mem_append_right _ (List.mem_of_getElem? (i := 468) (by decide +kernel))) rfl
theorem cd_X4_isLoose : Cond.code yX4_isLoose cX4_isLoose 2 (some .boolean) ∈ gtbl := gtbl_of (List.mem_append_right _ (List.mem_of_getElem? (i := 489) (by decide +kernel))) rfl
theorem im_X4_isLoose : Cond.instanceMethod yX4_isLoose ∈ gtbl := gtbl_of (List.mem_append_right _ (List.mem_of_getElem? (i := 487) (by decide +kernel))) rfl
theorem se_X4_isLoose : Cond.selects yX4_isLoose.cls yX4_isLoose yX4_isLoose ∈ gtbl := gtbl_of (List.mem_append_right _ (List.mem_of_getElem? (i := 488) (by decide +kernel))) rfl
theorem cd_X4_wasFound : Cond.code yX4_wasFound cX4_wasFound 2 (some .boolean) ∈ gtbl := gtbl_of (List.mem_append_right _ (List.mem_of_getElem? (i := 534) (by decide +kernel))) rfl
theorem im_X4_wasFound : Cond.instanceMethod yX4_wasFound ∈ gtbl := gtbl_of (List.mem_append_right _ (List.mem_of_getElem? (i := 532) (by decide +kernel))) rfl
theorem se_X4_wasFound : Cond.selects yX4_wasFound.cls yX4_wasFound yX4_wasFound ∈ gtbl := gtbl_of (List.mem_append_right _ (List.mem_of_getElem? (i := 533) (by decide +kernel))) rfl
theorem cd_X4_wasSure : Cond.code yX4_wasSure cX4_wasSure 2 (some .boolean) ∈ gtbl := gtbl_of (List.mem_append_right _ (List.mem_of_getElem? (i := 543) (by decide +kernel))) rfl
theorem im_X4_wasSure : Cond.instanceMethod yX4_wasSure ∈ gtbl := gtbl_of (List.mem_append_right _ (List.mem_of_getElem? (i := 541) (by decide +kernel))) rfl
theorem se_X4_wasSure : Cond.selects yX4_wasSure.cls yX4_wasSure yX4_wasSure ∈ gtbl := gtbl_of (List.mem_append_right _ (List.mem_of_getElem? (i := 542) (by decide +kernel))) rfl
theorem cd_X4_findsInStack : Cond.code yX4_findsInStack cX4_findsInStack 4 (some .int) ∈ gtbl := gtbl_of (List.mem_append_right _ (List.mem_of_getElem? (i := 505) (by decide +kernel))) rfl
theorem im_X4_findsInStack : Cond.instanceMethod yX4_findsInStack ∈ gtbl := gtbl_of (List.mem_append_right _ (List.mem_of_getElem? (i := 503) (by decide +kernel))) rfl
theorem se_X4_findsInStack : Cond.selects yX4_findsInStack.cls yX4_findsInStack yX4_findsInStack ∈ gtbl := gtbl_of (List.mem_append_right _ (List.mem_of_getElem? (i := 504) (by decide +kernel))) rfl
theorem cd_X4_cushionsAbove : Cond.code yX4_cushionsAbove cX4_cushionsAbove 4 (some .int) ∈ gtbl := gtbl_of (List.mem_append_right _ (List.mem_of_getElem? (i := 575) (by decide +kernel))) rfl
theorem im_X4_cushionsAbove : Cond.instanceMethod yX4_cushionsAbove ∈ gtbl := gtbl_of (List.mem_append_right _ (List.mem_of_getElem? (i := 573) (by decide +kernel))) rfl
theorem se_X4_cushionsAbove : Cond.selects yX4_cushionsAbove.cls yX4_cushionsAbove yX4_cushionsAbove ∈ gtbl := gtbl_of (List.mem_append_right _ (List.mem_of_getElem? (i := 574) (by decide +kernel))) rfl
theorem cd_X4_earliestYear : Cond.code yX4_earliestYear cX4_earliestYear 4 (some .int) ∈ gtbl := gtbl_of (List.mem_append_right _ (List.mem_of_getElem? (i := 588) (by decide +kernel))) rfl
theorem im_X4_earliestYear : Cond.instanceMethod yX4_earliestYear ∈ gtbl := gtbl_of (List.mem_append_right _ (List.mem_of_getElem? (i := 586) (by decide +kernel))) rfl
theorem se_X4_earliestYear : Cond.selects yX4_earliestYear.cls yX4_earliestYear yX4_earliestYear ∈ gtbl := gtbl_of (List.mem_append_right _ (List.mem_of_getElem? (i := 587) (by decide +kernel))) rfl
theorem cd_X4_sawEmpire : Cond.code yX4_sawEmpire cX4_sawEmpire 4 (some .boolean) ∈ gtbl := gtbl_of (List.mem_append_right _ (List.mem_of_getElem? (i := 620) (by decide +kernel))) rfl
theorem im_X4_sawEmpire : Cond.instanceMethod yX4_sawEmpire ∈ gtbl := gtbl_of (List.mem_append_right _ (List.mem_of_getElem? (i := 618) (by decide +kernel))) rfl
theorem se_X4_sawEmpire : Cond.selects yX4_sawEmpire.cls yX4_sawEmpire yX4_sawEmpire ∈ gtbl := gtbl_of (List.mem_append_right _ (List.mem_of_getElem? (i := 619) (by decide +kernel))) rfl
theorem cd_X4_sawEmpireAnywhere : Cond.code yX4_sawEmpireAnywhere cX4_sawEmpireAnywhere 3 (some .boolean) ∈ gtbl := gtbl_of (List.mem_append_right _ (List.mem_of_getElem? (i := 738) (by decide +kernel))) rfl
theorem im_X4_sawEmpireAnywhere : Cond.instanceMethod yX4_sawEmpireAnywhere ∈ gtbl := gtbl_of (List.mem_append_right _ (List.mem_of_getElem? (i := 736) (by decide +kernel))) rfl
theorem se_X4_sawEmpireAnywhere : Cond.selects yX4_sawEmpireAnywhere.cls yX4_sawEmpireAnywhere yX4_sawEmpireAnywhere ∈ gtbl := gtbl_of (List.mem_append_right _ (List.mem_of_getElem? (i := 737) (by decide +kernel))) rfl
theorem cd_X4_showsMixture : Cond.code yX4_showsMixture cX4_showsMixture 4 (some .boolean) ∈ gtbl := gtbl_of (List.mem_append_right _ (List.mem_of_getElem? (i := 629) (by decide +kernel))) rfl
theorem im_X4_showsMixture : Cond.instanceMethod yX4_showsMixture ∈ gtbl := gtbl_of (List.mem_append_right _ (List.mem_of_getElem? (i := 627) (by decide +kernel))) rfl
theorem se_X4_showsMixture : Cond.selects yX4_showsMixture.cls yX4_showsMixture yX4_showsMixture ∈ gtbl := gtbl_of (List.mem_append_right _ (List.mem_of_getElem? (i := 628) (by decide +kernel))) rfl
theorem cd_X4_digSeat : Cond.code yX4_digSeat cX4_digSeat 4 (some .int) ∈ gtbl := gtbl_of (List.mem_append_right _ (List.mem_of_getElem? (i := 643) (by decide +kernel))) rfl
theorem im_X4_digSeat : Cond.instanceMethod yX4_digSeat ∈ gtbl := gtbl_of (List.mem_append_right _ (List.mem_of_getElem? (i := 641) (by decide +kernel))) rfl
theorem se_X4_digSeat : Cond.selects yX4_digSeat.cls yX4_digSeat yX4_digSeat ∈ gtbl := gtbl_of (List.mem_append_right _ (List.mem_of_getElem? (i := 642) (by decide +kernel))) rfl
theorem cd_X4_canProp : Cond.code yX4_canProp cX4_canProp 2 (some .boolean) ∈ gtbl := gtbl_of (List.mem_append_right _ (List.mem_of_getElem? (i := 782) (by decide +kernel))) rfl
theorem im_X4_canProp : Cond.instanceMethod yX4_canProp ∈ gtbl := gtbl_of (List.mem_append_right _ (List.mem_of_getElem? (i := 780) (by decide +kernel))) rfl
theorem se_X4_canProp : Cond.selects yX4_canProp.cls yX4_canProp yX4_canProp ∈ gtbl := gtbl_of (List.mem_append_right _ (List.mem_of_getElem? (i := 781) (by decide +kernel))) rfl
theorem cd_X4_putProp : Cond.code yX4_putProp cX4_putProp 2 none ∈ gtbl := gtbl_of (List.mem_append_right _ (List.mem_of_getElem? (i := 786) (by decide +kernel))) rfl
theorem im_X4_putProp : Cond.instanceMethod yX4_putProp ∈ gtbl := gtbl_of (List.mem_append_right _ (List.mem_of_getElem? (i := 784) (by decide +kernel))) rfl
theorem se_X4_putProp : Cond.selects yX4_putProp.cls yX4_putProp yX4_putProp ∈ gtbl := gtbl_of (List.mem_append_right _ (List.mem_of_getElem? (i := 785) (by decide +kernel))) rfl
theorem cd_X4_freeSeat : Cond.code yX4_freeSeat cX4_freeSeat 2 none ∈ gtbl := gtbl_of (List.mem_append_right _ (List.mem_of_getElem? (i := 792) (by decide +kernel))) rfl
theorem im_X4_freeSeat : Cond.instanceMethod yX4_freeSeat ∈ gtbl := gtbl_of (List.mem_append_right _ (List.mem_of_getElem? (i := 790) (by decide +kernel))) rfl
theorem se_X4_freeSeat : Cond.selects yX4_freeSeat.cls yX4_freeSeat yX4_freeSeat ∈ gtbl := gtbl_of (List.mem_append_right _ (List.mem_of_getElem? (i := 791) (by decide +kernel))) rfl
theorem cd_X4_noteFind : Cond.code yX4_noteFind cX4_noteFind 3 none ∈ gtbl := gtbl_of (List.mem_append_right _ (List.mem_of_getElem? (i := 649) (by decide +kernel))) rfl
theorem im_X4_noteFind : Cond.instanceMethod yX4_noteFind ∈ gtbl := gtbl_of (List.mem_append_right _ (List.mem_of_getElem? (i := 648) (by decide +kernel))) rfl
theorem se_X4_noteFind : Cond.selects yX4_noteFind.cls yX4_noteFind yX4_noteFind ∈ gtbl := gtbl_of (List.mem_append_left _ (List.mem_of_getElem? (i := 8) (by decide +kernel))) rfl
theorem cd_X4_settle : Cond.code yX4_settle cX4_settle 3 none ∈ gtbl := gtbl_of (List.mem_append_right _ (List.mem_of_getElem? (i := 653) (by decide +kernel))) rfl
theorem im_X4_settle : Cond.instanceMethod yX4_settle ∈ gtbl := gtbl_of (List.mem_append_right _ (List.mem_of_getElem? (i := 652) (by decide +kernel))) rfl
theorem se_X4_settle : Cond.selects yX4_settle.cls yX4_settle yX4_settle ∈ gtbl := gtbl_of (List.mem_append_left _ (List.mem_of_getElem? (i := 9) (by decide +kernel))) rfl
theorem cd_X4_slidesOnto : Cond.code yX4_slidesOnto cX4_slidesOnto 3 (some .boolean) ∈ gtbl := gtbl_of (List.mem_append_right _ (List.mem_of_getElem? (i := 658) (by decide +kernel))) rfl
theorem im_X4_slidesOnto : Cond.instanceMethod yX4_slidesOnto ∈ gtbl := gtbl_of (List.mem_append_right _ (List.mem_of_getElem? (i := 657) (by decide +kernel))) rfl
theorem se_X4_slidesOnto : Cond.selects yX4_slidesOnto.cls yX4_slidesOnto yX4_slidesOnto ∈ gtbl := gtbl_of (List.mem_append_left _ (List.mem_of_getElem? (i := 10) (by decide +kernel))) rfl
theorem cd_X4_moveTop : Cond.code yX4_moveTop cX4_moveTop 5 none ∈ gtbl := gtbl_of (List.mem_append_right _ (List.mem_of_getElem? (i := 664) (by decide +kernel))) rfl
theorem im_X4_moveTop : Cond.instanceMethod yX4_moveTop ∈ gtbl := gtbl_of (List.mem_append_right _ (List.mem_of_getElem? (i := 663) (by decide +kernel))) rfl
theorem se_X4_moveTop : Cond.selects yX4_moveTop.cls yX4_moveTop yX4_moveTop ∈ gtbl := gtbl_of (List.mem_append_left _ (List.mem_of_getElem? (i := 11) (by decide +kernel))) rfl
theorem cd_X4_cushionAt : Cond.code yX4_cushionAt cX4_cushionAt 3 (some .int) ∈ gtbl := gtbl_of (List.mem_append_right _ (List.mem_of_getElem? (i := 474) (by decide +kernel))) rfl
theorem im_X4_cushionAt : Cond.instanceMethod yX4_cushionAt ∈ gtbl := gtbl_of (List.mem_append_right _ (List.mem_of_getElem? (i := 473) (by decide +kernel))) rfl
theorem se_X4_cushionAt : Cond.selects yX4_cushionAt.cls yX4_cushionAt yX4_cushionAt ∈ gtbl := gtbl_of (List.mem_append_left _ (List.mem_of_getElem? (i := 3) (by decide +kernel))) rfl
theorem cd_X5_init : Cond.code yX5_init cX5_init 1 none ∈ gtbl := gtbl_of (List.mem_append_right _ (List.mem_of_getElem? (i := 42) (by decide +kernel))) rfl
theorem im_X5_init : Cond.instanceMethod yX5_init ∈ gtbl := gtbl_of (List.mem_append_right _ (List.mem_of_getElem? (i := 41) (by decide +kernel))) rfl
theorem cd_X5_append : Cond.code yX5_append cX5_append 3 none ∈ gtbl := gtbl_of (List.mem_append_right _ (List.mem_of_getElem? (i := 1023) (by decide +kernel))) rfl
theorem im_X5_append : Cond.instanceMethod yX5_append ∈ gtbl := gtbl_of (List.mem_append_right _ (List.mem_of_getElem? (i := 1021) (by decide +kernel))) rfl
theorem se_X5_append : Cond.selects yX5_append.cls yX5_append yX5_append ∈ gtbl := gtbl_of (List.mem_append_right _ (List.mem_of_getElem? (i := 1022) (by decide +kernel))) rfl
theorem cd_X5_byteAt : Cond.code yX5_byteAt cX5_byteAt 2 (some .int) ∈ gtbl := gtbl_of (List.mem_append_right _ (List.mem_of_getElem? (i := 1049) (by decide +kernel))) rfl
theorem im_X5_byteAt : Cond.instanceMethod yX5_byteAt ∈ gtbl := gtbl_of (List.mem_append_right _ (List.mem_of_getElem? (i := 1047) (by decide +kernel))) rfl
theorem se_X5_byteAt : Cond.selects yX5_byteAt.cls yX5_byteAt yX5_byteAt ∈ gtbl := gtbl_of (List.mem_append_right _ (List.mem_of_getElem? (i := 1048) (by decide +kernel))) rfl
theorem cd_X6_init : Cond.code yX6_init cX6_init 2 none ∈ gtbl := gtbl_of (List.mem_append_right _ (List.mem_of_getElem? (i := 172) (by decide +kernel))) rfl
theorem im_X6_init : Cond.instanceMethod yX6_init ∈ gtbl := gtbl_of (List.mem_append_right _ (List.mem_of_getElem? (i := 171) (by decide +kernel))) rfl
theorem cd_X6_readAll : Cond.code yX6_readAll cX6_readAll 2 none ∈ gtbl := gtbl_of (List.mem_append_right _ (List.mem_of_getElem? (i := 1041) (by decide +kernel))) rfl
theorem im_X6_readAll : Cond.instanceMethod yX6_readAll ∈ gtbl := gtbl_of (List.mem_append_right _ (List.mem_of_getElem? (i := 1039) (by decide +kernel))) rfl
theorem se_X6_readAll : Cond.selects yX6_readAll.cls yX6_readAll yX6_readAll ∈ gtbl := gtbl_of (List.mem_append_right _ (List.mem_of_getElem? (i := 1040) (by decide +kernel))) rfl
theorem cd_X6_readToken : Cond.code yX6_readToken cX6_readToken 3 (some .int) ∈ gtbl := gtbl_of (List.mem_append_right _ (List.mem_of_getElem? (i := 1056) (by decide +kernel))) rfl
theorem im_X6_readToken : Cond.instanceMethod yX6_readToken ∈ gtbl := gtbl_of (List.mem_append_right _ (List.mem_of_getElem? (i := 1055) (by decide +kernel))) rfl
theorem se_X6_readToken : Cond.selects yX6_readToken.cls yX6_readToken yX6_readToken ∈ gtbl := gtbl_of (List.mem_append_left _ (List.mem_of_getElem? (i := 28) (by decide +kernel))) rfl
theorem cd_X6_skipBlanks : Cond.code yX6_skipBlanks cX6_skipBlanks 2 none ∈ gtbl := gtbl_of (List.mem_append_right _ (List.mem_of_getElem? (i := 1045) (by decide +kernel))) rfl
theorem im_X6_skipBlanks : Cond.instanceMethod yX6_skipBlanks ∈ gtbl := gtbl_of (List.mem_append_right _ (List.mem_of_getElem? (i := 1044) (by decide +kernel))) rfl
theorem se_X6_skipBlanks : Cond.selects yX6_skipBlanks.cls yX6_skipBlanks yX6_skipBlanks ∈ gtbl := gtbl_of (List.mem_append_left _ (List.mem_of_getElem? (i := 27) (by decide +kernel))) rfl
theorem cd_X6_readWord : Cond.code yX6_readWord cX6_readWord 5 (some .int) ∈ gtbl := gtbl_of (List.mem_append_right _ (List.mem_of_getElem? (i := 1063) (by decide +kernel))) rfl
theorem im_X6_readWord : Cond.instanceMethod yX6_readWord ∈ gtbl := gtbl_of (List.mem_append_right _ (List.mem_of_getElem? (i := 1062) (by decide +kernel))) rfl
theorem se_X6_readWord : Cond.selects yX6_readWord.cls yX6_readWord yX6_readWord ∈ gtbl := gtbl_of (List.mem_append_left _ (List.mem_of_getElem? (i := 29) (by decide +kernel))) rfl
theorem cd_X6_readNumber : Cond.code yX6_readNumber cX6_readNumber 4 (some .int) ∈ gtbl := gtbl_of (List.mem_append_right _ (List.mem_of_getElem? (i := 1087) (by decide +kernel))) rfl
theorem im_X6_readNumber : Cond.instanceMethod yX6_readNumber ∈ gtbl := gtbl_of (List.mem_append_right _ (List.mem_of_getElem? (i := 1086) (by decide +kernel))) rfl
theorem se_X6_readNumber : Cond.selects yX6_readNumber.cls yX6_readNumber yX6_readNumber ∈ gtbl := gtbl_of (List.mem_append_left _ (List.mem_of_getElem? (i := 30) (by decide +kernel))) rfl
theorem cd_X6_numberOfSign : Cond.code yX6_numberOfSign cX6_numberOfSign 1 (some .int) ∈ gtbl := gtbl_of (List.mem_append_right _ (List.mem_of_getElem? (i := 1073) (by decide +kernel))) rfl
theorem st_X6_numberOfSign : Cond.static yX6_numberOfSign ∈ gtbl := gtbl_of (List.mem_append_right _ (List.mem_of_getElem? (i := 1072) (by decide +kernel))) rfl
theorem cd_X6_isBlank : Cond.code yX6_isBlank cX6_isBlank 1 (some .boolean) ∈ gtbl := gtbl_of (List.mem_append_right _ (List.mem_of_getElem? (i := 1052) (by decide +kernel))) rfl
theorem st_X6_isBlank : Cond.static yX6_isBlank ∈ gtbl := gtbl_of (List.mem_append_right _ (List.mem_of_getElem? (i := 1051) (by decide +kernel))) rfl
theorem cd_X6_isLetter : Cond.code yX6_isLetter cX6_isLetter 1 (some .boolean) ∈ gtbl := gtbl_of (List.mem_append_right _ (List.mem_of_getElem? (i := 1059) (by decide +kernel))) rfl
theorem st_X6_isLetter : Cond.static yX6_isLetter ∈ gtbl := gtbl_of (List.mem_append_right _ (List.mem_of_getElem? (i := 1058) (by decide +kernel))) rfl
theorem cd_X6_isDigit : Cond.code yX6_isDigit cX6_isDigit 1 (some .boolean) ∈ gtbl := gtbl_of (List.mem_append_right _ (List.mem_of_getElem? (i := 1069) (by decide +kernel))) rfl
theorem st_X6_isDigit : Cond.static yX6_isDigit ∈ gtbl := gtbl_of (List.mem_append_right _ (List.mem_of_getElem? (i := 1068) (by decide +kernel))) rfl
theorem cd_X6_isOfWord : Cond.code yX6_isOfWord cX6_isOfWord 1 (some .boolean) ∈ gtbl := gtbl_of (List.mem_append_right _ (List.mem_of_getElem? (i := 1066) (by decide +kernel))) rfl
theorem st_X6_isOfWord : Cond.static yX6_isOfWord ∈ gtbl := gtbl_of (List.mem_append_right _ (List.mem_of_getElem? (i := 1065) (by decide +kernel))) rfl
theorem cd_X7_init : Cond.code yX7_init cX7_init 1 none ∈ gtbl := gtbl_of (List.mem_append_right _ (List.mem_of_getElem? (i := 57) (by decide +kernel))) rfl
theorem im_X7_init : Cond.instanceMethod yX7_init ∈ gtbl := gtbl_of (List.mem_append_right _ (List.mem_of_getElem? (i := 56) (by decide +kernel))) rfl
theorem cd_X7_clear : Cond.code yX7_clear cX7_clear 2 none ∈ gtbl := gtbl_of (List.mem_append_right _ (List.mem_of_getElem? (i := 94) (by decide +kernel))) rfl
theorem im_X7_clear : Cond.instanceMethod yX7_clear ∈ gtbl := gtbl_of (List.mem_append_right _ (List.mem_of_getElem? (i := 92) (by decide +kernel))) rfl
theorem se_X7_clear : Cond.selects yX7_clear.cls yX7_clear yX7_clear ∈ gtbl := gtbl_of (List.mem_append_right _ (List.mem_of_getElem? (i := 93) (by decide +kernel))) rfl
theorem cd_X7_resize : Cond.code yX7_resize cX7_resize 3 none ∈ gtbl := gtbl_of (List.mem_append_right _ (List.mem_of_getElem? (i := 98) (by decide +kernel))) rfl
theorem im_X7_resize : Cond.instanceMethod yX7_resize ∈ gtbl := gtbl_of (List.mem_append_right _ (List.mem_of_getElem? (i := 96) (by decide +kernel))) rfl
theorem se_X7_resize : Cond.selects yX7_resize.cls yX7_resize yX7_resize ∈ gtbl := gtbl_of (List.mem_append_right _ (List.mem_of_getElem? (i := 97) (by decide +kernel))) rfl
theorem cd_X7_addEmpire : Cond.code yX7_addEmpire cX7_addEmpire 5 none ∈ gtbl := gtbl_of (List.mem_append_right _ (List.mem_of_getElem? (i := 1135) (by decide +kernel))) rfl
theorem im_X7_addEmpire : Cond.instanceMethod yX7_addEmpire ∈ gtbl := gtbl_of (List.mem_append_right _ (List.mem_of_getElem? (i := 1133) (by decide +kernel))) rfl
theorem se_X7_addEmpire : Cond.selects yX7_addEmpire.cls yX7_addEmpire yX7_addEmpire ∈ gtbl := gtbl_of (List.mem_append_right _ (List.mem_of_getElem? (i := 1134) (by decide +kernel))) rfl
theorem cd_X7_addFind : Cond.code yX7_addFind cX7_addFind 4 none ∈ gtbl := gtbl_of (List.mem_append_right _ (List.mem_of_getElem? (i := 1157) (by decide +kernel))) rfl
theorem im_X7_addFind : Cond.instanceMethod yX7_addFind ∈ gtbl := gtbl_of (List.mem_append_right _ (List.mem_of_getElem? (i := 1155) (by decide +kernel))) rfl
theorem se_X7_addFind : Cond.selects yX7_addFind.cls yX7_addFind yX7_addFind ∈ gtbl := gtbl_of (List.mem_append_right _ (List.mem_of_getElem? (i := 1156) (by decide +kernel))) rfl
theorem cd_X7_addSpring : Cond.code yX7_addSpring cX7_addSpring 2 none ∈ gtbl := gtbl_of (List.mem_append_right _ (List.mem_of_getElem? (i := 1173) (by decide +kernel))) rfl
theorem im_X7_addSpring : Cond.instanceMethod yX7_addSpring ∈ gtbl := gtbl_of (List.mem_append_right _ (List.mem_of_getElem? (i := 1171) (by decide +kernel))) rfl
theorem se_X7_addSpring : Cond.selects yX7_addSpring.cls yX7_addSpring yX7_addSpring ∈ gtbl := gtbl_of (List.mem_append_right _ (List.mem_of_getElem? (i := 1172) (by decide +kernel))) rfl
theorem cd_X7_empireNamed : Cond.code yX7_empireNamed cX7_empireNamed 4 (some .int) ∈ gtbl := gtbl_of (List.mem_append_right _ (List.mem_of_getElem? (i := 1131) (by decide +kernel))) rfl
theorem im_X7_empireNamed : Cond.instanceMethod yX7_empireNamed ∈ gtbl := gtbl_of (List.mem_append_right _ (List.mem_of_getElem? (i := 1129) (by decide +kernel))) rfl
theorem se_X7_empireNamed : Cond.selects yX7_empireNamed.cls yX7_empireNamed yX7_empireNamed ∈ gtbl := gtbl_of (List.mem_append_right _ (List.mem_of_getElem? (i := 1130) (by decide +kernel))) rfl
theorem cd_X7_seatOfSum : Cond.code yX7_seatOfSum cX7_seatOfSum 2 (some .int) ∈ gtbl := gtbl_of (List.mem_append_right _ (List.mem_of_getElem? (i := 750) (by decide +kernel))) rfl
theorem im_X7_seatOfSum : Cond.instanceMethod yX7_seatOfSum ∈ gtbl := gtbl_of (List.mem_append_right _ (List.mem_of_getElem? (i := 748) (by decide +kernel))) rfl
theorem se_X7_seatOfSum : Cond.selects yX7_seatOfSum.cls yX7_seatOfSum yX7_seatOfSum ∈ gtbl := gtbl_of (List.mem_append_right _ (List.mem_of_getElem? (i := 749) (by decide +kernel))) rfl
theorem cd_X7_cushionTold : Cond.code yX7_cushionTold cX7_cushionTold 3 (some .int) ∈ gtbl := gtbl_of (List.mem_append_right _ (List.mem_of_getElem? (i := 1151) (by decide +kernel))) rfl
theorem im_X7_cushionTold : Cond.instanceMethod yX7_cushionTold ∈ gtbl := gtbl_of (List.mem_append_right _ (List.mem_of_getElem? (i := 1149) (by decide +kernel))) rfl
theorem se_X7_cushionTold : Cond.selects yX7_cushionTold.cls yX7_cushionTold yX7_cushionTold ∈ gtbl := gtbl_of (List.mem_append_right _ (List.mem_of_getElem? (i := 1150) (by decide +kernel))) rfl
theorem cd_X7_stratumOfCushion : Cond.code yX7_stratumOfCushion cX7_stratumOfCushion 2 (some .int) ∈ gtbl := gtbl_of (List.mem_append_right _ (List.mem_of_getElem? (i := 478) (by decide +kernel))) rfl
theorem im_X7_stratumOfCushion : Cond.instanceMethod yX7_stratumOfCushion ∈ gtbl := gtbl_of (List.mem_append_right _ (List.mem_of_getElem? (i := 476) (by decide +kernel))) rfl
theorem se_X7_stratumOfCushion : Cond.selects yX7_stratumOfCushion.cls yX7_stratumOfCushion yX7_stratumOfCushion ∈ gtbl := gtbl_of (List.mem_append_right _ (List.mem_of_getElem? (i := 477) (by decide +kernel))) rfl
theorem cd_X7_findIn : Cond.code yX7_findIn cX7_findIn 2 (some .int) ∈ gtbl := gtbl_of (List.mem_append_right _ (List.mem_of_getElem? (i := 509) (by decide +kernel))) rfl
theorem im_X7_findIn : Cond.instanceMethod yX7_findIn ∈ gtbl := gtbl_of (List.mem_append_right _ (List.mem_of_getElem? (i := 507) (by decide +kernel))) rfl
theorem se_X7_findIn : Cond.selects yX7_findIn.cls yX7_findIn yX7_findIn ∈ gtbl := gtbl_of (List.mem_append_right _ (List.mem_of_getElem? (i := 508) (by decide +kernel))) rfl
theorem cd_X7_hasSpring : Cond.code yX7_hasSpring cX7_hasSpring 2 (some .boolean) ∈ gtbl := gtbl_of (List.mem_append_right _ (List.mem_of_getElem? (i := 497) (by decide +kernel))) rfl
theorem im_X7_hasSpring : Cond.instanceMethod yX7_hasSpring ∈ gtbl := gtbl_of (List.mem_append_right _ (List.mem_of_getElem? (i := 495) (by decide +kernel))) rfl
theorem se_X7_hasSpring : Cond.selects yX7_hasSpring.cls yX7_hasSpring yX7_hasSpring ∈ gtbl := gtbl_of (List.mem_append_right _ (List.mem_of_getElem? (i := 496) (by decide +kernel))) rfl
theorem cd_X7_tellsCoin : Cond.code yX7_tellsCoin cX7_tellsCoin 2 (some .boolean) ∈ gtbl := gtbl_of (List.mem_append_right _ (List.mem_of_getElem? (i := 522) (by decide +kernel))) rfl
theorem im_X7_tellsCoin : Cond.instanceMethod yX7_tellsCoin ∈ gtbl := gtbl_of (List.mem_append_right _ (List.mem_of_getElem? (i := 520) (by decide +kernel))) rfl
theorem se_X7_tellsCoin : Cond.selects yX7_tellsCoin.cls yX7_tellsCoin yX7_tellsCoin ∈ gtbl := gtbl_of (List.mem_append_right _ (List.mem_of_getElem? (i := 521) (by decide +kernel))) rfl
theorem cd_X7_cushionOf : Cond.code yX7_cushionOf cX7_cushionOf 2 (some .int) ∈ gtbl := gtbl_of (List.mem_append_right _ (List.mem_of_getElem? (i := 555) (by decide +kernel))) rfl
theorem im_X7_cushionOf : Cond.instanceMethod yX7_cushionOf ∈ gtbl := gtbl_of (List.mem_append_right _ (List.mem_of_getElem? (i := 553) (by decide +kernel))) rfl
theorem se_X7_cushionOf : Cond.selects yX7_cushionOf.cls yX7_cushionOf yX7_cushionOf ∈ gtbl := gtbl_of (List.mem_append_right _ (List.mem_of_getElem? (i := 554) (by decide +kernel))) rfl
theorem cd_X7_stratumOfFind : Cond.code yX7_stratumOfFind cX7_stratumOfFind 2 (some .int) ∈ gtbl := gtbl_of (List.mem_append_right _ (List.mem_of_getElem? (i := 551) (by decide +kernel))) rfl
theorem im_X7_stratumOfFind : Cond.instanceMethod yX7_stratumOfFind ∈ gtbl := gtbl_of (List.mem_append_right _ (List.mem_of_getElem? (i := 549) (by decide +kernel))) rfl
theorem se_X7_stratumOfFind : Cond.selects yX7_stratumOfFind.cls yX7_stratumOfFind yX7_stratumOfFind ∈ gtbl := gtbl_of (List.mem_append_right _ (List.mem_of_getElem? (i := 550) (by decide +kernel))) rfl
theorem cd_X7_coinYear : Cond.code yX7_coinYear cX7_coinYear 2 (some .int) ∈ gtbl := gtbl_of (List.mem_append_right _ (List.mem_of_getElem? (i := 599) (by decide +kernel))) rfl
theorem im_X7_coinYear : Cond.instanceMethod yX7_coinYear ∈ gtbl := gtbl_of (List.mem_append_right _ (List.mem_of_getElem? (i := 597) (by decide +kernel))) rfl
theorem se_X7_coinYear : Cond.selects yX7_coinYear.cls yX7_coinYear yX7_coinYear ∈ gtbl := gtbl_of (List.mem_append_right _ (List.mem_of_getElem? (i := 598) (by decide +kernel))) rfl
theorem cd_X7_crumbsEmpire : Cond.code yX7_crumbsEmpire cX7_crumbsEmpire 2 (some .int) ∈ gtbl := gtbl_of (List.mem_append_right _ (List.mem_of_getElem? (i := 565) (by decide +kernel))) rfl
theorem im_X7_crumbsEmpire : Cond.instanceMethod yX7_crumbsEmpire ∈ gtbl := gtbl_of (List.mem_append_right _ (List.mem_of_getElem? (i := 563) (by decide +kernel))) rfl
theorem se_X7_crumbsEmpire : Cond.selects yX7_crumbsEmpire.cls yX7_crumbsEmpire yX7_crumbsEmpire ∈ gtbl := gtbl_of (List.mem_append_right _ (List.mem_of_getElem? (i := 564) (by decide +kernel))) rfl
theorem cd_X7_fromOf : Cond.code yX7_fromOf cX7_fromOf 2 (some .int) ∈ gtbl := gtbl_of (List.mem_append_right _ (List.mem_of_getElem? (i := 604) (by decide +kernel))) rfl
theorem im_X7_fromOf : Cond.instanceMethod yX7_fromOf ∈ gtbl := gtbl_of (List.mem_append_right _ (List.mem_of_getElem? (i := 602) (by decide +kernel))) rfl
theorem se_X7_fromOf : Cond.selects yX7_fromOf.cls yX7_fromOf yX7_fromOf ∈ gtbl := gtbl_of (List.mem_append_right _ (List.mem_of_getElem? (i := 603) (by decide +kernel))) rfl
theorem cd_X7_toOf : Cond.code yX7_toOf cX7_toOf 2 (some .int) ∈ gtbl := gtbl_of (List.mem_append_right _ (List.mem_of_getElem? (i := 633) (by decide +kernel))) rfl
theorem im_X7_toOf : Cond.instanceMethod yX7_toOf ∈ gtbl := gtbl_of (List.mem_append_right _ (List.mem_of_getElem? (i := 631) (by decide +kernel))) rfl
theorem se_X7_toOf : Cond.selects yX7_toOf.cls yX7_toOf yX7_toOf ∈ gtbl := gtbl_of (List.mem_append_right _ (List.mem_of_getElem? (i := 632) (by decide +kernel))) rfl
theorem cd_X7_earliestYearOf : Cond.code yX7_earliestYearOf cX7_earliestYearOf 2 (some .int) ∈ gtbl := gtbl_of (List.mem_append_right _ (List.mem_of_getElem? (i := 594) (by decide +kernel))) rfl
theorem im_X7_earliestYearOf : Cond.instanceMethod yX7_earliestYearOf ∈ gtbl := gtbl_of (List.mem_append_right _ (List.mem_of_getElem? (i := 592) (by decide +kernel))) rfl
theorem se_X7_earliestYearOf : Cond.selects yX7_earliestYearOf.cls yX7_earliestYearOf yX7_earliestYearOf ∈ gtbl := gtbl_of (List.mem_append_right _ (List.mem_of_getElem? (i := 593) (by decide +kernel))) rfl
theorem cd_X7_isEmpire : Cond.code yX7_isEmpire cX7_isEmpire 2 (some .boolean) ∈ gtbl := gtbl_of (List.mem_append_right _ (List.mem_of_getElem? (i := 608) (by decide +kernel))) rfl
theorem im_X7_isEmpire : Cond.instanceMethod yX7_isEmpire ∈ gtbl := gtbl_of (List.mem_append_right _ (List.mem_of_getElem? (i := 607) (by decide +kernel))) rfl
theorem se_X7_isEmpire : Cond.selects yX7_isEmpire.cls yX7_isEmpire yX7_isEmpire ∈ gtbl := gtbl_of (List.mem_append_left _ (List.mem_of_getElem? (i := 7) (by decide +kernel))) rfl
theorem cd_X7_isFind : Cond.code yX7_isFind cX7_isFind 2 (some .boolean) ∈ gtbl := gtbl_of (List.mem_append_right _ (List.mem_of_getElem? (i := 526) (by decide +kernel))) rfl
theorem im_X7_isFind : Cond.instanceMethod yX7_isFind ∈ gtbl := gtbl_of (List.mem_append_right _ (List.mem_of_getElem? (i := 525) (by decide +kernel))) rfl
theorem se_X7_isFind : Cond.selects yX7_isFind.cls yX7_isFind yX7_isFind ∈ gtbl := gtbl_of (List.mem_append_left _ (List.mem_of_getElem? (i := 5) (by decide +kernel))) rfl
theorem cd_X7_isCushion : Cond.code yX7_isCushion cX7_isCushion 1 (some .boolean) ∈ gtbl := gtbl_of (List.mem_append_right _ (List.mem_of_getElem? (i := 481) (by decide +kernel))) rfl
theorem st_X7_isCushion : Cond.static yX7_isCushion ∈ gtbl := gtbl_of (List.mem_append_right _ (List.mem_of_getElem? (i := 480) (by decide +kernel))) rfl
theorem cd_X8_init : Cond.code yX8_init cX8_init 3 none ∈ gtbl := gtbl_of (List.mem_append_right _ (List.mem_of_getElem? (i := 34) (by decide +kernel))) rfl
theorem im_X8_init : Cond.instanceMethod yX8_init ∈ gtbl := gtbl_of (List.mem_append_right _ (List.mem_of_getElem? (i := 33) (by decide +kernel))) rfl
theorem cd_X8_feed : Cond.code yX8_feed cX8_feed 6 (some .int) ∈ gtbl := gtbl_of (List.mem_append_right _ (List.mem_of_getElem? (i := 1018) (by decide +kernel))) rfl
theorem im_X8_feed : Cond.instanceMethod yX8_feed ∈ gtbl := gtbl_of (List.mem_append_right _ (List.mem_of_getElem? (i := 1016) (by decide +kernel))) rfl
theorem se_X8_feed : Cond.selects yX8_feed.cls yX8_feed yX8_feed ∈ gtbl := gtbl_of (List.mem_append_right _ (List.mem_of_getElem? (i := 1017) (by decide +kernel))) rfl
theorem cd_X8_trim : Cond.code yX8_trim cX8_trim 2 (some .int) ∈ gtbl := gtbl_of (List.mem_append_right _ (List.mem_of_getElem? (i := 1027) (by decide +kernel))) rfl
theorem im_X8_trim : Cond.instanceMethod yX8_trim ∈ gtbl := gtbl_of (List.mem_append_right _ (List.mem_of_getElem? (i := 1025) (by decide +kernel))) rfl
theorem se_X8_trim : Cond.selects yX8_trim.cls yX8_trim yX8_trim ∈ gtbl := gtbl_of (List.mem_append_right _ (List.mem_of_getElem? (i := 1026) (by decide +kernel))) rfl
theorem cd_X8_teach : Cond.code yX8_teach cX8_teach 2 (some .int) ∈ gtbl := gtbl_of (List.mem_append_right _ (List.mem_of_getElem? (i := 1032) (by decide +kernel))) rfl
theorem im_X8_teach : Cond.instanceMethod yX8_teach ∈ gtbl := gtbl_of (List.mem_append_right _ (List.mem_of_getElem? (i := 1030) (by decide +kernel))) rfl
theorem se_X8_teach : Cond.selects yX8_teach.cls yX8_teach yX8_teach ∈ gtbl := gtbl_of (List.mem_append_right _ (List.mem_of_getElem? (i := 1031) (by decide +kernel))) rfl
theorem cd_X8_seats : Cond.code yX8_seats cX8_seats 1 (some .int) ∈ gtbl := gtbl_of (List.mem_append_right _ (List.mem_of_getElem? (i := 326) (by decide +kernel))) rfl
theorem im_X8_seats : Cond.instanceMethod yX8_seats ∈ gtbl := gtbl_of (List.mem_append_right _ (List.mem_of_getElem? (i := 324) (by decide +kernel))) rfl
theorem se_X8_seats : Cond.selects yX8_seats.cls yX8_seats yX8_seats ∈ gtbl := gtbl_of (List.mem_append_right _ (List.mem_of_getElem? (i := 325) (by decide +kernel))) rfl
theorem cd_X8_strata : Cond.code yX8_strata cX8_strata 1 (some .int) ∈ gtbl := gtbl_of (List.mem_append_right _ (List.mem_of_getElem? (i := 330) (by decide +kernel))) rfl
theorem im_X8_strata : Cond.instanceMethod yX8_strata ∈ gtbl := gtbl_of (List.mem_append_right _ (List.mem_of_getElem? (i := 328) (by decide +kernel))) rfl
theorem se_X8_strata : Cond.selects yX8_strata.cls yX8_strata yX8_strata ∈ gtbl := gtbl_of (List.mem_append_right _ (List.mem_of_getElem? (i := 329) (by decide +kernel))) rfl
theorem cd_X8_finds : Cond.code yX8_finds cX8_finds 1 (some .int) ∈ gtbl := gtbl_of (List.mem_append_right _ (List.mem_of_getElem? (i := 334) (by decide +kernel))) rfl
theorem im_X8_finds : Cond.instanceMethod yX8_finds ∈ gtbl := gtbl_of (List.mem_append_right _ (List.mem_of_getElem? (i := 332) (by decide +kernel))) rfl
theorem se_X8_finds : Cond.selects yX8_finds.cls yX8_finds yX8_finds ∈ gtbl := gtbl_of (List.mem_append_right _ (List.mem_of_getElem? (i := 333) (by decide +kernel))) rfl
theorem cd_X8_days : Cond.code yX8_days cX8_days 1 (some .int) ∈ gtbl := gtbl_of (List.mem_append_right _ (List.mem_of_getElem? (i := 905) (by decide +kernel))) rfl
theorem im_X8_days : Cond.instanceMethod yX8_days ∈ gtbl := gtbl_of (List.mem_append_right _ (List.mem_of_getElem? (i := 903) (by decide +kernel))) rfl
theorem se_X8_days : Cond.selects yX8_days.cls yX8_days yX8_days ∈ gtbl := gtbl_of (List.mem_append_right _ (List.mem_of_getElem? (i := 904) (by decide +kernel))) rfl
theorem cd_X8_ordersCarriedOut : Cond.code yX8_ordersCarriedOut cX8_ordersCarriedOut 1 (some .int) ∈ gtbl := gtbl_of (List.mem_append_right _ (List.mem_of_getElem? (i := 909) (by decide +kernel))) rfl
theorem im_X8_ordersCarriedOut : Cond.instanceMethod yX8_ordersCarriedOut ∈ gtbl := gtbl_of (List.mem_append_right _ (List.mem_of_getElem? (i := 907) (by decide +kernel))) rfl
theorem se_X8_ordersCarriedOut : Cond.selects yX8_ordersCarriedOut.cls yX8_ordersCarriedOut yX8_ordersCarriedOut ∈ gtbl := gtbl_of (List.mem_append_right _ (List.mem_of_getElem? (i := 908) (by decide +kernel))) rfl
theorem cd_X8_cushionsDug : Cond.code yX8_cushionsDug cX8_cushionsDug 1 (some .int) ∈ gtbl := gtbl_of (List.mem_append_right _ (List.mem_of_getElem? (i := 338) (by decide +kernel))) rfl
theorem im_X8_cushionsDug : Cond.instanceMethod yX8_cushionsDug ∈ gtbl := gtbl_of (List.mem_append_right _ (List.mem_of_getElem? (i := 336) (by decide +kernel))) rfl
theorem se_X8_cushionsDug : Cond.selects yX8_cushionsDug.cls yX8_cushionsDug yX8_cushionsDug ∈ gtbl := gtbl_of (List.mem_append_right _ (List.mem_of_getElem? (i := 337) (by decide +kernel))) rfl
theorem cd_X8_slides : Cond.code yX8_slides cX8_slides 1 (some .int) ∈ gtbl := gtbl_of (List.mem_append_right _ (List.mem_of_getElem? (i := 342) (by decide +kernel))) rfl
theorem im_X8_slides : Cond.instanceMethod yX8_slides ∈ gtbl := gtbl_of (List.mem_append_right _ (List.mem_of_getElem? (i := 340) (by decide +kernel))) rfl
theorem se_X8_slides : Cond.selects yX8_slides.cls yX8_slides yX8_slides ∈ gtbl := gtbl_of (List.mem_append_right _ (List.mem_of_getElem? (i := 341) (by decide +kernel))) rfl
theorem cd_X8_found : Cond.code yX8_found cX8_found 1 (some .int) ∈ gtbl := gtbl_of (List.mem_append_right _ (List.mem_of_getElem? (i := 346) (by decide +kernel))) rfl
theorem im_X8_found : Cond.instanceMethod yX8_found ∈ gtbl := gtbl_of (List.mem_append_right _ (List.mem_of_getElem? (i := 344) (by decide +kernel))) rfl
theorem se_X8_found : Cond.selects yX8_found.cls yX8_found yX8_found ∈ gtbl := gtbl_of (List.mem_append_right _ (List.mem_of_getElem? (i := 345) (by decide +kernel))) rfl
theorem cd_X8_sureFinds : Cond.code yX8_sureFinds cX8_sureFinds 1 (some .int) ∈ gtbl := gtbl_of (List.mem_append_right _ (List.mem_of_getElem? (i := 350) (by decide +kernel))) rfl
theorem im_X8_sureFinds : Cond.instanceMethod yX8_sureFinds ∈ gtbl := gtbl_of (List.mem_append_right _ (List.mem_of_getElem? (i := 348) (by decide +kernel))) rfl
theorem se_X8_sureFinds : Cond.selects yX8_sureFinds.cls yX8_sureFinds yX8_sureFinds ∈ gtbl := gtbl_of (List.mem_append_right _ (List.mem_of_getElem? (i := 349) (by decide +kernel))) rfl
theorem cd_X8_props : Cond.code yX8_props cX8_props 1 (some .int) ∈ gtbl := gtbl_of (List.mem_append_right _ (List.mem_of_getElem? (i := 354) (by decide +kernel))) rfl
theorem im_X8_props : Cond.instanceMethod yX8_props ∈ gtbl := gtbl_of (List.mem_append_right _ (List.mem_of_getElem? (i := 352) (by decide +kernel))) rfl
theorem se_X8_props : Cond.selects yX8_props.cls yX8_props yX8_props ∈ gtbl := gtbl_of (List.mem_append_right _ (List.mem_of_getElem? (i := 353) (by decide +kernel))) rfl
theorem cd_X8_heightOf : Cond.code yX8_heightOf cX8_heightOf 2 (some .int) ∈ gtbl := gtbl_of (List.mem_append_right _ (List.mem_of_getElem? (i := 358) (by decide +kernel))) rfl
theorem im_X8_heightOf : Cond.instanceMethod yX8_heightOf ∈ gtbl := gtbl_of (List.mem_append_right _ (List.mem_of_getElem? (i := 356) (by decide +kernel))) rfl
theorem se_X8_heightOf : Cond.selects yX8_heightOf.cls yX8_heightOf yX8_heightOf ∈ gtbl := gtbl_of (List.mem_append_right _ (List.mem_of_getElem? (i := 357) (by decide +kernel))) rfl
theorem cd_X8_isPropped : Cond.code yX8_isPropped cX8_isPropped 2 (some .boolean) ∈ gtbl := gtbl_of (List.mem_append_right _ (List.mem_of_getElem? (i := 437) (by decide +kernel))) rfl
theorem im_X8_isPropped : Cond.instanceMethod yX8_isPropped ∈ gtbl := gtbl_of (List.mem_append_right _ (List.mem_of_getElem? (i := 435) (by decide +kernel))) rfl
theorem se_X8_isPropped : Cond.selects yX8_isPropped.cls yX8_isPropped yX8_isPropped ∈ gtbl := gtbl_of (List.mem_append_right _ (List.mem_of_getElem? (i := 436) (by decide +kernel))) rfl
theorem cd_X8_topStratum : Cond.code yX8_topStratum cX8_topStratum 2 (some .int) ∈ gtbl := gtbl_of (List.mem_append_right _ (List.mem_of_getElem? (i := 445) (by decide +kernel))) rfl
theorem im_X8_topStratum : Cond.instanceMethod yX8_topStratum ∈ gtbl := gtbl_of (List.mem_append_right _ (List.mem_of_getElem? (i := 443) (by decide +kernel))) rfl
theorem se_X8_topStratum : Cond.selects yX8_topStratum.cls yX8_topStratum yX8_topStratum ∈ gtbl := gtbl_of (List.mem_append_right _ (List.mem_of_getElem? (i := 444) (by decide +kernel))) rfl
theorem cd_X8_isTopLoose : Cond.code yX8_isTopLoose cX8_isTopLoose 2 (some .boolean) ∈ gtbl := gtbl_of (List.mem_append_right _ (List.mem_of_getElem? (i := 485) (by decide +kernel))) rfl
theorem im_X8_isTopLoose : Cond.instanceMethod yX8_isTopLoose ∈ gtbl := gtbl_of (List.mem_append_right _ (List.mem_of_getElem? (i := 483) (by decide +kernel))) rfl
theorem se_X8_isTopLoose : Cond.selects yX8_isTopLoose.cls yX8_isTopLoose yX8_isTopLoose ∈ gtbl := gtbl_of (List.mem_append_right _ (List.mem_of_getElem? (i := 484) (by decide +kernel))) rfl
theorem cd_X8_hasTopSpring : Cond.code yX8_hasTopSpring cX8_hasTopSpring 2 (some .boolean) ∈ gtbl := gtbl_of (List.mem_append_right _ (List.mem_of_getElem? (i := 493) (by decide +kernel))) rfl
theorem im_X8_hasTopSpring : Cond.instanceMethod yX8_hasTopSpring ∈ gtbl := gtbl_of (List.mem_append_right _ (List.mem_of_getElem? (i := 491) (by decide +kernel))) rfl
theorem se_X8_hasTopSpring : Cond.selects yX8_hasTopSpring.cls yX8_hasTopSpring yX8_hasTopSpring ∈ gtbl := gtbl_of (List.mem_append_right _ (List.mem_of_getElem? (i := 492) (by decide +kernel))) rfl
theorem cd_X8_findsLeft : Cond.code yX8_findsLeft cX8_findsLeft 2 (some .int) ∈ gtbl := gtbl_of (List.mem_append_right _ (List.mem_of_getElem? (i := 501) (by decide +kernel))) rfl
theorem im_X8_findsLeft : Cond.instanceMethod yX8_findsLeft ∈ gtbl := gtbl_of (List.mem_append_right _ (List.mem_of_getElem? (i := 499) (by decide +kernel))) rfl
theorem se_X8_findsLeft : Cond.selects yX8_findsLeft.cls yX8_findsLeft yX8_findsLeft ∈ gtbl := gtbl_of (List.mem_append_right _ (List.mem_of_getElem? (i := 500) (by decide +kernel))) rfl
theorem cd_X8_isCoin : Cond.code yX8_isCoin cX8_isCoin 2 (some .boolean) ∈ gtbl := gtbl_of (List.mem_append_right _ (List.mem_of_getElem? (i := 513) (by decide +kernel))) rfl
theorem im_X8_isCoin : Cond.instanceMethod yX8_isCoin ∈ gtbl := gtbl_of (List.mem_append_right _ (List.mem_of_getElem? (i := 511) (by decide +kernel))) rfl
theorem se_X8_isCoin : Cond.selects yX8_isCoin.cls yX8_isCoin yX8_isCoin ∈ gtbl := gtbl_of (List.mem_append_right _ (List.mem_of_getElem? (i := 512) (by decide +kernel))) rfl
theorem cd_X8_isFound : Cond.code yX8_isFound cX8_isFound 2 (some .boolean) ∈ gtbl := gtbl_of (List.mem_append_right _ (List.mem_of_getElem? (i := 530) (by decide +kernel))) rfl
theorem im_X8_isFound : Cond.instanceMethod yX8_isFound ∈ gtbl := gtbl_of (List.mem_append_right _ (List.mem_of_getElem? (i := 528) (by decide +kernel))) rfl
theorem se_X8_isFound : Cond.selects yX8_isFound.cls yX8_isFound yX8_isFound ∈ gtbl := gtbl_of (List.mem_append_right _ (List.mem_of_getElem? (i := 529) (by decide +kernel))) rfl
theorem cd_X8_isSure : Cond.code yX8_isSure cX8_isSure 2 (some .boolean) ∈ gtbl := gtbl_of (List.mem_append_right _ (List.mem_of_getElem? (i := 538) (by decide +kernel))) rfl
theorem im_X8_isSure : Cond.instanceMethod yX8_isSure ∈ gtbl := gtbl_of (List.mem_append_right _ (List.mem_of_getElem? (i := 536) (by decide +kernel))) rfl
theorem se_X8_isSure : Cond.selects yX8_isSure.cls yX8_isSure yX8_isSure ∈ gtbl := gtbl_of (List.mem_append_right _ (List.mem_of_getElem? (i := 537) (by decide +kernel))) rfl
theorem cd_X8_stratumOf : Cond.code yX8_stratumOf cX8_stratumOf 2 (some .int) ∈ gtbl := gtbl_of (List.mem_append_right _ (List.mem_of_getElem? (i := 547) (by decide +kernel))) rfl
theorem im_X8_stratumOf : Cond.instanceMethod yX8_stratumOf ∈ gtbl := gtbl_of (List.mem_append_right _ (List.mem_of_getElem? (i := 545) (by decide +kernel))) rfl
theorem se_X8_stratumOf : Cond.selects yX8_stratumOf.cls yX8_stratumOf yX8_stratumOf ∈ gtbl := gtbl_of (List.mem_append_right _ (List.mem_of_getElem? (i := 546) (by decide +kernel))) rfl
theorem cd_X8_yearOf : Cond.code yX8_yearOf cX8_yearOf 2 (some .int) ∈ gtbl := gtbl_of (List.mem_append_right _ (List.mem_of_getElem? (i := 933) (by decide +kernel))) rfl
theorem im_X8_yearOf : Cond.instanceMethod yX8_yearOf ∈ gtbl := gtbl_of (List.mem_append_right _ (List.mem_of_getElem? (i := 931) (by decide +kernel))) rfl
theorem se_X8_yearOf : Cond.selects yX8_yearOf.cls yX8_yearOf yX8_yearOf ∈ gtbl := gtbl_of (List.mem_append_right _ (List.mem_of_getElem? (i := 932) (by decide +kernel))) rfl
theorem cd_X8_empireOf : Cond.code yX8_empireOf cX8_empireOf 2 (some .int) ∈ gtbl := gtbl_of (List.mem_append_right _ (List.mem_of_getElem? (i := 560) (by decide +kernel))) rfl
theorem im_X8_empireOf : Cond.instanceMethod yX8_empireOf ∈ gtbl := gtbl_of (List.mem_append_right _ (List.mem_of_getElem? (i := 558) (by decide +kernel))) rfl
theorem se_X8_empireOf : Cond.selects yX8_empireOf.cls yX8_empireOf yX8_empireOf ∈ gtbl := gtbl_of (List.mem_append_right _ (List.mem_of_getElem? (i := 559) (by decide +kernel))) rfl
theorem cd_X8_buriedUnder : Cond.code yX8_buriedUnder cX8_buriedUnder 2 (some .int) ∈ gtbl := gtbl_of (List.mem_append_right _ (List.mem_of_getElem? (i := 569) (by decide +kernel))) rfl
theorem im_X8_buriedUnder : Cond.instanceMethod yX8_buriedUnder ∈ gtbl := gtbl_of (List.mem_append_right _ (List.mem_of_getElem? (i := 567) (by decide +kernel))) rfl
theorem se_X8_buriedUnder : Cond.selects yX8_buriedUnder.cls yX8_buriedUnder yX8_buriedUnder ∈ gtbl := gtbl_of (List.mem_append_right _ (List.mem_of_getElem? (i := 568) (by decide +kernel))) rfl
theorem cd_X8_notBefore : Cond.code yX8_notBefore cX8_notBefore 2 (some .int) ∈ gtbl := gtbl_of (List.mem_append_right _ (List.mem_of_getElem? (i := 579) (by decide +kernel))) rfl
theorem im_X8_notBefore : Cond.instanceMethod yX8_notBefore ∈ gtbl := gtbl_of (List.mem_append_right _ (List.mem_of_getElem? (i := 577) (by decide +kernel))) rfl
theorem se_X8_notBefore : Cond.selects yX8_notBefore.cls yX8_notBefore yX8_notBefore ∈ gtbl := gtbl_of (List.mem_append_right _ (List.mem_of_getElem? (i := 578) (by decide +kernel))) rfl
theorem cd_X8_isSeenIn : Cond.code yX8_isSeenIn cX8_isSeenIn 3 (some .boolean) ∈ gtbl := gtbl_of (List.mem_append_right _ (List.mem_of_getElem? (i := 615) (by decide +kernel))) rfl
theorem im_X8_isSeenIn : Cond.instanceMethod yX8_isSeenIn ∈ gtbl := gtbl_of (List.mem_append_right _ (List.mem_of_getElem? (i := 613) (by decide +kernel))) rfl
theorem se_X8_isSeenIn : Cond.selects yX8_isSeenIn.cls yX8_isSeenIn yX8_isSeenIn ∈ gtbl := gtbl_of (List.mem_append_right _ (List.mem_of_getElem? (i := 614) (by decide +kernel))) rfl
theorem cd_X8_isMixed : Cond.code yX8_isMixed cX8_isMixed 2 (some .boolean) ∈ gtbl := gtbl_of (List.mem_append_right _ (List.mem_of_getElem? (i := 625) (by decide +kernel))) rfl
theorem im_X8_isMixed : Cond.instanceMethod yX8_isMixed ∈ gtbl := gtbl_of (List.mem_append_right _ (List.mem_of_getElem? (i := 623) (by decide +kernel))) rfl
theorem se_X8_isMixed : Cond.selects yX8_isMixed.cls yX8_isMixed yX8_isMixed ∈ gtbl := gtbl_of (List.mem_append_right _ (List.mem_of_getElem? (i := 624) (by decide +kernel))) rfl
theorem cd_X8_dig : Cond.code yX8_dig cX8_dig 2 (some .int) ∈ gtbl := gtbl_of (List.mem_append_right _ (List.mem_of_getElem? (i := 639) (by decide +kernel))) rfl
theorem im_X8_dig : Cond.instanceMethod yX8_dig ∈ gtbl := gtbl_of (List.mem_append_right _ (List.mem_of_getElem? (i := 637) (by decide +kernel))) rfl
theorem se_X8_dig : Cond.selects yX8_dig.cls yX8_dig yX8_dig ∈ gtbl := gtbl_of (List.mem_append_right _ (List.mem_of_getElem? (i := 638) (by decide +kernel))) rfl
theorem cd_X8_prop : Cond.code yX8_prop cX8_prop 2 (some .int) ∈ gtbl := gtbl_of (List.mem_append_right _ (List.mem_of_getElem? (i := 1607) (by decide +kernel))) rfl
theorem im_X8_prop : Cond.instanceMethod yX8_prop ∈ gtbl := gtbl_of (List.mem_append_right _ (List.mem_of_getElem? (i := 1605) (by decide +kernel))) rfl
theorem se_X8_prop : Cond.selects yX8_prop.cls yX8_prop yX8_prop ∈ gtbl := gtbl_of (List.mem_append_right _ (List.mem_of_getElem? (i := 1606) (by decide +kernel))) rfl
theorem cd_X8_takeProp : Cond.code yX8_takeProp cX8_takeProp 3 (some .int) ∈ gtbl := gtbl_of (List.mem_append_right _ (List.mem_of_getElem? (i := 1614) (by decide +kernel))) rfl
theorem im_X8_takeProp : Cond.instanceMethod yX8_takeProp ∈ gtbl := gtbl_of (List.mem_append_right _ (List.mem_of_getElem? (i := 1612) (by decide +kernel))) rfl
theorem se_X8_takeProp : Cond.selects yX8_takeProp.cls yX8_takeProp yX8_takeProp ∈ gtbl := gtbl_of (List.mem_append_right _ (List.mem_of_getElem? (i := 1613) (by decide +kernel))) rfl
theorem cd_X8_passDays : Cond.code yX8_passDays cX8_passDays 3 (some .int) ∈ gtbl := gtbl_of (List.mem_append_right _ (List.mem_of_getElem? (i := 668) (by decide +kernel))) rfl
theorem im_X8_passDays : Cond.instanceMethod yX8_passDays ∈ gtbl := gtbl_of (List.mem_append_right _ (List.mem_of_getElem? (i := 666) (by decide +kernel))) rfl
theorem se_X8_passDays : Cond.selects yX8_passDays.cls yX8_passDays yX8_passDays ∈ gtbl := gtbl_of (List.mem_append_right _ (List.mem_of_getElem? (i := 667) (by decide +kernel))) rfl
theorem cd_X8_foundAfter : Cond.code yX8_foundAfter cX8_foundAfter 2 (some .int) ∈ gtbl := gtbl_of (List.mem_append_right _ (List.mem_of_getElem? (i := 796) (by decide +kernel))) rfl
theorem im_X8_foundAfter : Cond.instanceMethod yX8_foundAfter ∈ gtbl := gtbl_of (List.mem_append_right _ (List.mem_of_getElem? (i := 794) (by decide +kernel))) rfl
theorem se_X8_foundAfter : Cond.selects yX8_foundAfter.cls yX8_foundAfter yX8_foundAfter ∈ gtbl := gtbl_of (List.mem_append_right _ (List.mem_of_getElem? (i := 795) (by decide +kernel))) rfl
theorem cd_X8_daysUntilFound : Cond.code yX8_daysUntilFound cX8_daysUntilFound 3 (some .int) ∈ gtbl := gtbl_of (List.mem_append_right _ (List.mem_of_getElem? (i := 804) (by decide +kernel))) rfl
theorem im_X8_daysUntilFound : Cond.instanceMethod yX8_daysUntilFound ∈ gtbl := gtbl_of (List.mem_append_right _ (List.mem_of_getElem? (i := 802) (by decide +kernel))) rfl
theorem se_X8_daysUntilFound : Cond.selects yX8_daysUntilFound.cls yX8_daysUntilFound yX8_daysUntilFound ∈ gtbl := gtbl_of (List.mem_append_right _ (List.mem_of_getElem? (i := 803) (by decide +kernel))) rfl
theorem cd_X8_wouldSlide : Cond.code yX8_wouldSlide cX8_wouldSlide 2 (some .int) ∈ gtbl := gtbl_of (List.mem_append_right _ (List.mem_of_getElem? (i := 808) (by decide +kernel))) rfl
theorem im_X8_wouldSlide : Cond.instanceMethod yX8_wouldSlide ∈ gtbl := gtbl_of (List.mem_append_right _ (List.mem_of_getElem? (i := 806) (by decide +kernel))) rfl
theorem se_X8_wouldSlide : Cond.selects yX8_wouldSlide.cls yX8_wouldSlide yX8_wouldSlide ∈ gtbl := gtbl_of (List.mem_append_right _ (List.mem_of_getElem? (i := 807) (by decide +kernel))) rfl
theorem cd_X8_bestDig : Cond.code yX8_bestDig cX8_bestDig 7 (some .int) ∈ gtbl := gtbl_of (List.mem_append_right _ (List.mem_of_getElem? (i := 816) (by decide +kernel))) rfl
theorem im_X8_bestDig : Cond.instanceMethod yX8_bestDig ∈ gtbl := gtbl_of (List.mem_append_right _ (List.mem_of_getElem? (i := 814) (by decide +kernel))) rfl
theorem se_X8_bestDig : Cond.selects yX8_bestDig.cls yX8_bestDig yX8_bestDig ∈ gtbl := gtbl_of (List.mem_append_right _ (List.mem_of_getElem? (i := 815) (by decide +kernel))) rfl
theorem cd_X8_meanYear : Cond.code yX8_meanYear cX8_meanYear 4 (some .double) ∈ gtbl := gtbl_of (List.mem_append_right _ (List.mem_of_getElem? (i := 955) (by decide +kernel))) rfl
theorem im_X8_meanYear : Cond.instanceMethod yX8_meanYear ∈ gtbl := gtbl_of (List.mem_append_right _ (List.mem_of_getElem? (i := 953) (by decide +kernel))) rfl
theorem se_X8_meanYear : Cond.selects yX8_meanYear.cls yX8_meanYear yX8_meanYear ∈ gtbl := gtbl_of (List.mem_append_right _ (List.mem_of_getElem? (i := 954) (by decide +kernel))) rfl
theorem cd_X8_digest : Cond.code yX8_digest cX8_digest 3 (some .long) ∈ gtbl := gtbl_of (List.mem_append_right _ (List.mem_of_getElem? (i := 820) (by decide +kernel))) rfl
theorem im_X8_digest : Cond.instanceMethod yX8_digest ∈ gtbl := gtbl_of (List.mem_append_right _ (List.mem_of_getElem? (i := 818) (by decide +kernel))) rfl
theorem se_X8_digest : Cond.selects yX8_digest.cls yX8_digest yX8_digest ∈ gtbl := gtbl_of (List.mem_append_right _ (List.mem_of_getElem? (i := 819) (by decide +kernel))) rfl
theorem cd_X8_digestSeats : Cond.code yX8_digestSeats cX8_digestSeats 6 (some .long) ∈ gtbl := gtbl_of (List.mem_append_right _ (List.mem_of_getElem? (i := 827) (by decide +kernel))) rfl
theorem im_X8_digestSeats : Cond.instanceMethod yX8_digestSeats ∈ gtbl := gtbl_of (List.mem_append_right _ (List.mem_of_getElem? (i := 826) (by decide +kernel))) rfl
theorem se_X8_digestSeats : Cond.selects yX8_digestSeats.cls yX8_digestSeats yX8_digestSeats ∈ gtbl := gtbl_of (List.mem_append_left _ (List.mem_of_getElem? (i := 22) (by decide +kernel))) rfl
theorem cd_X8_digestFinds : Cond.code yX8_digestFinds cX8_digestFinds 6 (some .long) ∈ gtbl := gtbl_of (List.mem_append_right _ (List.mem_of_getElem? (i := 831) (by decide +kernel))) rfl
theorem im_X8_digestFinds : Cond.instanceMethod yX8_digestFinds ∈ gtbl := gtbl_of (List.mem_append_right _ (List.mem_of_getElem? (i := 830) (by decide +kernel))) rfl
theorem se_X8_digestFinds : Cond.selects yX8_digestFinds.cls yX8_digestFinds yX8_digestFinds ∈ gtbl := gtbl_of (List.mem_append_left _ (List.mem_of_getElem? (i := 23) (by decide +kernel))) rfl
theorem cd_X8_digestStrata : Cond.code yX8_digestStrata cX8_digestStrata 6 (some .long) ∈ gtbl := gtbl_of (List.mem_append_right _ (List.mem_of_getElem? (i := 835) (by decide +kernel))) rfl
