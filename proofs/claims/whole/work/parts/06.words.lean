/-! ===== one list of all words that the methods need ===== -/
def WA0 : List Cond := [.fieldLink RX3 13 "LampLine$Row" "size" "I",
  .fieldLink RX3 7 "LampLine$Row" "cells" "[I",
  .constant RX3 21 (65535),
  .methodLink RX0 9 yX3_cut,
  .instanceMethod yX3_cut,
  .selects RX3 yX3_cut yX3_cut,
  .initialized RX3,
  .code yX3_cut cX3_cut 2 none,
  .methodLink RX0 17 yX3_put,
  .instanceMethod yX3_put,
  .selects RX3 yX3_put yX3_put,
  .code yX3_put cX3_put 2 none,
  .methodLink RX0 20 yX3_sum,
  .instanceMethod yX3_sum,
  .selects RX3 yX3_sum yX3_sum,
  .code yX3_sum cX3_sum 5 (some .int),
  .constantLong RX0 28 (-1),
  .constantLong RX0 34 (65535),
  .methodLink RX0 24 yX3_size,
  .instanceMethod yX3_size,
  .selects RX3 yX3_size yX3_size,
  .code yX3_size cX3_size 1 (some .int),
  .methodLink RX0 30 yX3_at,
  .instanceMethod yX3_at,
  .selects RX3 yX3_at yX3_at,
  .code yX3_at cX3_at 2 (some .int),
  .methodLink RX3 1 objectInit,
  .instanceMethod objectInit,
  .code objectInit ⟨#[0xb1]⟩ 1 none,
  .arrayClass .int,
  .methodLink RX1 3 objectInit,
  .fieldLink RX1 9 "LampLine$Lamp" "levels" "[I",
  .classLink RX1 15 RX3,
  .instantiable RX3 2,
  .fieldLink RX1 20 "LampLine$Lamp" "text" "LLampLine$Row;",
  .fieldLink RX1 24 "LampLine$Lamp" "laterTexts" "[LLampLine$Row;",
  .arrayClass .boolean,
  .fieldLink RX1 28 "LampLine$Lamp" "isLater" "[Z",
  .fieldLink RX1 32 "LampLine$Lamp" "mode" "I",
  .fieldLink RX1 36 "LampLine$Lamp" "id" "J"]
def WA1 : List Cond := [.fieldLink RX1 40 "LampLine$Lamp" "width" "I",
  .fieldLink RX1 43 "LampLine$Lamp" "modes" "I",
  .fieldLink RX1 46 "LampLine$Lamp" "address" "I",
  .methodLink RX1 17 yX3_init,
  .instanceMethod yX3_init,
  .code yX3_init cX3_init 2 none,
  .fieldLink RX1 49 "LampLine$Lamp" "litAt" "I",
  .fieldLink RX1 60 "LampLine$Lamp" "silent" "Z",
  .fieldLink RX1 68 "LampLine$Lamp" "shows" "Z",
  .fieldLink RX1 75 "LampLine$Lamp" "waiting" "I",
  .fieldLink RX1 81 "LampLine$Lamp" "orders" "I",
  .static yX6_makerOf,
  .initialized RX6,
  .code yX6_makerOf cX6_makerOf 2 (some .int),
  .methodLink RX1 56 yX1_footprint,
  .instanceMethod yX1_footprint,
  .selects RX1 yX1_footprint yX1_footprint,
  .initialized RX1,
  .code yX1_footprint cX1_footprint 1 (some .int),
  .static yX6_flag,
  .code yX6_flag cX6_flag 1 (some .int),
  .methodLink RX1 71 yX1_isDark,
  .instanceMethod yX1_isDark,
  .selects RX1 yX1_isDark yX1_isDark,
  .code yX1_isDark cX1_isDark 2 (some .boolean),
  .methodLink RX1 78 yX3_size,
  .fieldLink RX1 88 "LampLine$Lamp" "onTheWay" "I",
  .methodLink RX1 84 yX3_copyFrom,
  .instanceMethod yX3_copyFrom,
  .selects RX3 yX3_copyFrom yX3_copyFrom,
  .code yX3_copyFrom cX3_copyFrom 3 none,
  .methodLink RX1 91 Lib.Math.min.name,
  .static Lib.Math.min.name,
  .initialized "java/lang/Math",
  .code Lib.Math.min.name Lib.Math.min.code 2 (some .int),
  .methodLink RX1 97 yX3_at,
  .constantLong RX6 60 (4294967295),
  .constantLong RX1 105 (4294967295),
  .constant RX1 107 (65535),
  .static yX6_restOf]
def WA2 : List Cond := [.code yX6_restOf cX6_restOf 2 (some .long),
  .methodLink RX3 17 yX3_at,
  .fieldLink RX2 20 "LampLine$Packet" "to" "J",
  .constantLong RX2 28 (4294967295),
  .fieldLink RX2 46 "LampLine$Packet" "from" "J",
  .fieldLink RX2 49 "LampLine$Packet" "count" "I",
  .fieldLink RX2 53 "LampLine$Packet" "kind" "I",
  .fieldLink RX2 59 "LampLine$Packet" "part" "I",
  .fieldLink RX2 62 "LampLine$Packet" "group" "I",
  .fieldLink RX2 65 "LampLine$Packet" "matter" "I",
  .fieldLink RX2 16 "LampLine$Packet" "data" "LLampLine$Row;",
  .methodLink RX2 68 yX3_cut,
  .fieldLink RX2 56 "LampLine$Packet" "messages" "I",
  .methodLink RX2 34 yX3_size,
  .methodLink RX2 71 yX3_put,
  .methodLink RX2 74 yX3_putNumber,
  .instanceMethod yX3_putNumber,
  .selects RX3 yX3_putNumber yX3_putNumber,
  .code yX3_putNumber cX3_putNumber 5 none,
  .methodLink RX2 30 yX3_at,
  .methodLink RX2 38 yX3_sum,
  .methodLink RX1 131 yX3_number,
  .instanceMethod yX3_number,
  .selects RX3 yX3_number yX3_number,
  .code yX3_number cX3_number 6 (some .long),
  .methodLink RX1 135 yX0_write,
  .static yX0_write,
  .initialized RX0,
  .code yX0_write cX0_write 5 none,
  .methodLink RX1 117 yX2_isCall,
  .instanceMethod yX2_isCall,
  .selects RX2 yX2_isCall yX2_isCall,
  .initialized RX2,
  .code yX2_isCall cX2_isCall 1 (some .boolean),
  .methodLink RX1 141 yX2_beginReply,
  .instanceMethod yX2_beginReply,
  .selects RX2 yX2_beginReply yX2_beginReply,
  .code yX2_beginReply cX2_beginReply 4 none,
  .methodLink RX1 145 yX3_putNumber,
  .methodLink RX1 152 yX2_writeTo]
def WA3 : List Cond := [.instanceMethod yX2_writeTo,
  .selects RX2 yX2_writeTo yX2_writeTo,
  .code yX2_writeTo cX2_writeTo 4 none,
  .fieldLink RX1 180 "LampLine$Lamp" "MATTERS" "[I",
  .methodLink RX1 177 yX1_isKnown,
  .static yX1_isKnown,
  .code yX1_isKnown cX1_isKnown 2 (some .boolean),
  .static yX6_fits,
  .code yX6_fits cX6_fits 2 (some .boolean),
  .constantLong RX1 190 (3),
  .methodLink RX1 192 yX3_put,
  .methodLink RX1 158 yX1_formRefusal,
  .static yX1_formRefusal,
  .code yX1_formRefusal cX1_formRefusal 4 (some .int),
  .methodLink RX1 162 yX1_valueRefusal,
  .instanceMethod yX1_valueRefusal,
  .selects RX1 yX1_valueRefusal yX1_valueRefusal,
  .code yX1_valueRefusal cX1_valueRefusal 6 (some .int),
  .methodLink RX1 166 yX2_refuse,
  .instanceMethod yX2_refuse,
  .selects RX2 yX2_refuse yX2_refuse,
  .code yX2_refuse cX2_refuse 2 none,
  .methodLink RX1 169 yX1_obey,
  .instanceMethod yX1_obey,
  .selects RX1 yX1_obey yX1_obey,
  .code yX1_obey cX1_obey 7 none,
  .methodLink RX1 173 yX1_tell,
  .instanceMethod yX1_tell,
  .selects RX1 yX1_tell yX1_tell,
  .code yX1_tell cX1_tell 6 none,
  .methodLink RX1 113 yX1_speaksToSearch,
  .instanceMethod yX1_speaksToSearch,
  .selects RX1 yX1_speaksToSearch yX1_speaksToSearch,
  .code yX1_speaksToSearch cX1_speaksToSearch 5 (some .boolean),
  .methodLink RX1 121 yX1_speaksToOrder,
  .instanceMethod yX1_speaksToOrder,
  .selects RX1 yX1_speaksToOrder yX1_speaksToOrder,
  .code yX1_speaksToOrder cX1_speaksToOrder 8 (some .boolean),
  .methodLink RX2 5 objectInit,
  .classLink RX2 11 RX3]
def WA4 : List Cond := [.methodLink RX2 13 yX3_init,
  .methodLink RX2 42 yX3_number,
  .methodLink RX4 3 objectInit,
  .arrayClass .long,
  .fieldLink RX4 11 "LampLine$Search" "lows" "[J",
  .fieldLink RX4 15 "LampLine$Search" "highs" "[J",
  .fieldLink RX4 18 "LampLine$Search" "foundIds" "[J",
  .fieldLink RX4 25 "LampLine$Search" "depth" "I",
  .fieldLink RX4 21 "LampLine$Search" "begun" "Z",
  .fieldLink RX4 29 "LampLine$Search" "foundCount" "I",
  .fieldLink RX4 32 "LampLine$Search" "steps" "I",
  .constantLong RX4 35 (281474976710654),
  .methodLink RX4 37 yX4_pile,
  .instanceMethod yX4_pile,
  .selects RX4 yX4_pile yX4_pile,
  .initialized RX4,
  .code yX4_pile cX4_pile 5 none,
  .constantLong RX4 41 (-1),
  .methodLink RX4 43 yX4_hasFound,
  .instanceMethod yX4_hasFound,
  .selects RX4 yX4_hasFound yX4_hasFound,
  .code yX4_hasFound cX4_hasFound 4 (some .boolean),
  .methodLink RX5 1 objectInit,
  .fieldLink RX5 9 "LampLine$Spoils" "places" "[I",
  .fieldLink RX5 13 "LampLine$Spoils" "masks" "[I",
  .fieldLink RX5 16 "LampLine$Spoils" "size" "I",
  .methodLink RX5 20 yX5_dropFirst,
  .instanceMethod yX5_dropFirst,
  .selects RX5 yX5_dropFirst yX5_dropFirst,
  .initialized RX5,
  .code yX5_dropFirst cX5_dropFirst 2 none,
  .methodLink RX5 23 yX3_flip,
  .instanceMethod yX3_flip,
  .selects RX3 yX3_flip yX3_flip,
  .code yX3_flip cX3_flip 3 none,
  .methodLink RX6 1 objectInit,
  .classLink RX6 7 RX3,
  .fieldLink RX6 14 "LampLine" "tape" "LLampLine$Row;",
  .fieldLink RX6 18 "LampLine" "frame" "LLampLine$Row;",
  .fieldLink RX6 23 "LampLine" "voice" "LLampLine$Row;"]
def WA5 : List Cond := [.fieldLink RX6 26 "LampLine" "heardAnswer" "LLampLine$Row;",
  .classLink RX6 21 RX2,
  .instantiable RX2 9,
  .fieldLink RX6 30 "LampLine" "question" "LLampLine$Packet;",
  .fieldLink RX6 34 "LampLine" "heard" "LLampLine$Packet;",
  .fieldLink RX6 37 "LampLine" "reply" "LLampLine$Packet;",
  .classLink RX6 40 RX5,
  .instantiable RX5 3,
  .fieldLink RX6 43 "LampLine" "spoils" "LLampLine$Spoils;",
  .classLink RX6 47 RX4,
  .instantiable RX4 7,
  .fieldLink RX6 50 "LampLine" "hunt" "LLampLine$Search;",
  .classLink RX6 54 RX1,
  .fieldLink RX6 56 "LampLine" "lamps" "[LLampLine$Lamp;",
  .methodLink RX6 11 yX3_init,
  .instanceMethod yX2_init,
  .code yX2_init cX2_init 1 none,
  .instanceMethod yX5_init,
  .code yX5_init cX5_init 1 none,
  .instanceMethod yX4_init,
  .code yX4_init cX4_init 1 none,
  .fieldLink RX6 87 "LampLine" "lampCount" "I",
  .classLink RX6 62 "java/lang/IllegalArgumentException",
  .initialized "java/lang/IllegalArgumentException",
  .classLink RX6 91 "java/lang/IllegalStateException",
  .initialized "java/lang/IllegalStateException",
  .instantiable RX1 15,
  .methodLink RX6 71 yX6_fits,
  .methodLink RX6 77 yX6_joinedId,
  .static yX6_joinedId,
  .code yX6_joinedId cX6_joinedId 3 (some .long),
  .methodLink RX6 81 yX6_isThere,
  .instanceMethod yX6_isThere,
  .selects RX6 yX6_isThere yX6_isThere,
  .code yX6_isThere cX6_isThere 4 (some .boolean),
  .methodLink RX6 96 yX1_init,
  .instanceMethod yX1_init,
  .code yX1_init cX1_init 7 none,
  .methodLink RX6 99 yX3_size,
  .methodLink RX6 105 yX3_putNumber]
def WA6 : List Cond := [.methodLink RX6 111 yX3_cut,
  .fieldLink RX6 160 "LampLine" "frameCount" "I",
  .methodLink RX6 126 yX3_at,
  .methodLink RX6 246 yX2_readFrom,
  .instanceMethod yX2_readFrom,
  .selects RX2 yX2_readFrom yX2_readFrom,
  .code yX2_readFrom cX2_readFrom 4 (some .boolean),
  .methodLink RX6 250 yX1_ripen,
  .instanceMethod yX1_ripen,
  .selects RX1 yX1_ripen yX1_ripen,
  .code yX1_ripen cX1_ripen 3 none,
  .methodLink RX6 253 yX1_shine,
  .instanceMethod yX1_shine,
  .selects RX1 yX1_shine yX1_shine,
  .code yX1_shine cX1_shine 5 none,
  .methodLink RX6 260 yX1_isMeantBy,
  .instanceMethod yX1_isMeantBy,
  .selects RX1 yX1_isMeantBy yX1_isMeantBy,
  .code yX1_isMeantBy cX1_isMeantBy 3 (some .boolean),
  .methodLink RX6 263 yX1_speaksTo,
  .instanceMethod yX1_speaksTo,
  .selects RX1 yX1_speaksTo yX1_speaksTo,
  .code yX1_speaksTo cX1_speaksTo 5 (some .boolean),
  .methodLink RX6 267 yX3_join,
  .instanceMethod yX3_join,
  .selects RX3 yX3_join yX3_join,
  .code yX3_join cX3_join 3 none,
  .methodLink RX6 270 yX5_applyTo,
  .instanceMethod yX5_applyTo,
  .selects RX5 yX5_applyTo yX5_applyTo,
  .code yX5_applyTo cX5_applyTo 3 none,
  .methodLink RX6 114 yX3_copyFrom,
  .methodLink RX6 118 yX6_runFrame,
  .instanceMethod yX6_runFrame,
  .selects RX6 yX6_runFrame yX6_runFrame,
  .code yX6_runFrame cX6_runFrame 5 none,
  .classLink RX6 121 "java/lang/IndexOutOfBoundsException",
  .initialized "java/lang/IndexOutOfBoundsException",
  .fieldLink RX6 273 "LampLine" "questionCount" "I",
  .constantLong RX6 276 (140728898420737)]
def WA7 : List Cond := [.constant RX6 130 (65535),
  .methodLink RX6 135 yX6_beginQuestion,
  .instanceMethod yX6_beginQuestion,
  .selects RX6 yX6_beginQuestion yX6_beginQuestion,
  .code yX6_beginQuestion cX6_beginQuestion 5 none,
  .methodLink RX6 145 yX2_writeTo,
  .methodLink RX6 148 yX6_isReplyFrom,
  .instanceMethod yX6_isReplyFrom,
  .selects RX6 yX6_isReplyFrom yX6_isReplyFrom,
  .code yX6_isReplyFrom cX6_isReplyFrom 3 (some .boolean),
  .methodLink RX6 156 yX5_add,
  .instanceMethod yX5_add,
  .selects RX5 yX5_add yX5_add,
  .code yX5_add cX5_add 3 none,
  .methodLink RX6 163 yX6_lampAt,
  .instanceMethod yX6_lampAt,
  .selects RX6 yX6_lampAt yX6_lampAt,
  .code yX6_lampAt cX6_lampAt 2 (some (.object "LampLine$Lamp")),
  .methodLink RX6 169 yX1_fact,
  .instanceMethod yX1_fact,
  .selects RX1 yX1_fact yX1_fact,
  .code yX1_fact cX1_fact 3 (some .int),
  .methodLink RX6 177 yX6_restOf,
  .methodLink RX6 181 yX1_footprint,
  .methodLink RX6 186 yX1_levelAt,
  .instanceMethod yX1_levelAt,
  .selects RX1 yX1_levelAt yX1_levelAt,
  .code yX1_levelAt cX1_levelAt 2 (some .int),
  .methodLink RX6 198 yX6_flag,
  .constantLong RX6 205 (281474976710655),
  .methodLink RX6 202 yX4_begin,
  .instanceMethod yX4_begin,
  .selects RX4 yX4_begin yX4_begin,
  .code yX4_begin cX4_begin 1 none,
  .methodLink RX6 207 yX6_writeSearch,
  .instanceMethod yX6_writeSearch,
  .selects RX6 yX6_writeSearch yX6_writeSearch,
  .code yX6_writeSearch cX6_writeSearch 4 none,
  .methodLink RX6 316 yX4_keepFound,
  .instanceMethod yX4_keepFound]
def WA8 : List Cond := [.selects RX4 yX4_keepFound yX4_keepFound,
  .code yX4_keepFound cX4_keepFound 3 none,
  .methodLink RX6 237 yX4_latestLow,
  .instanceMethod yX4_latestLow,
  .selects RX4 yX4_latestLow yX4_latestLow,
  .code yX4_latestLow cX4_latestLow 1 (some .long),
  .methodLink RX6 241 yX4_latestHigh,
  .instanceMethod yX4_latestHigh,
  .selects RX4 yX4_latestHigh yX4_latestHigh,
  .code yX4_latestHigh cX4_latestHigh 1 (some .long),
  .methodLink RX6 293 yX4_takeLatest,
  .instanceMethod yX4_takeLatest,
  .selects RX4 yX4_takeLatest yX4_takeLatest,
  .code yX4_takeLatest cX4_takeLatest 1 none,
  .methodLink RX6 296 yX6_tryId,
  .instanceMethod yX6_tryId,
  .selects RX6 yX6_tryId yX6_tryId,
  .code yX6_tryId cX6_tryId 3 (some .int),
  .methodLink RX6 300 yX4_pile,
  .methodLink RX6 304 yX6_writeBranchSearch,
  .instanceMethod yX6_writeBranchSearch,
  .selects RX6 yX6_writeBranchSearch yX6_writeBranchSearch,
  .code yX6_writeBranchSearch cX6_writeBranchSearch 5 none,
  .methodLink RX6 307 yX0_read,
  .static yX0_read,
  .code yX0_read cX0_read 6 (some .long),
  .methodLink RX6 313 yX4_hasFound,
  .methodLink RX6 220 yX6_takeStep,
  .instanceMethod yX6_takeStep,
  .selects RX6 yX6_takeStep yX6_takeStep,
  .code yX6_takeStep cX6_takeStep 10 none,
  .methodLink RX7 1 objectInit,
  .fieldLink RX7 7 "LampLineModel" "maker" "[I",
  .fieldLink RX7 13 "LampLineModel" "rest" "[J",
  .fieldLink RX7 17 "LampLineModel" "width" "[I",
  .fieldLink RX7 20 "LampLineModel" "modes" "[I",
  .fieldLink RX7 23 "LampLineModel" "mode" "[I",
  .fieldLink RX7 26 "LampLineModel" "address" "[I",
  .fieldLink RX7 29 "LampLineModel" "silent" "[Z",
  .fieldLink RX7 33 "LampLineModel" "shows" "[Z"]
def WA9 : List Cond := [.fieldLink RX7 36 "LampLineModel" "labelSize" "[I",
  .arrayClass .byte,
  .fieldLink RX7 39 "LampLineModel" "label" "[B",
  .fieldLink RX7 43 "LampLineModel" "asked" "[I",
  .fieldLink RX7 46 "LampLineModel" "levels" "[I",
  .fieldLink RX7 49 "LampLineModel" "lit" "[I",
  .fieldLink RX7 52 "LampLineModel" "laters" "[I",
  .fieldLink RX7 55 "LampLineModel" "due" "[I",
  .fieldLink RX7 58 "LampLineModel" "laterSize" "[I",
  .fieldLink RX7 61 "LampLineModel" "laterBytes" "[B",
  .fieldLink RX7 64 "LampLineModel" "tape" "[B",
  .fieldLink RX7 67 "LampLineModel" "frame" "[B",
  .fieldLink RX7 70 "LampLineModel" "answer" "[B",
  .fieldLink RX7 73 "LampLineModel" "reply" "[B",
  .fieldLink RX7 76 "LampLineModel" "spoilAt" "[I",
  .fieldLink RX7 79 "LampLineModel" "spoilMask" "[I",
  .fieldLink RX7 82 "LampLineModel" "low" "[J",
  .fieldLink RX7 85 "LampLineModel" "high" "[J",
  .fieldLink RX7 88 "LampLineModel" "foundId" "[J",
  .fieldLink RX7 91 "LampLineModel" "thrown" "I",
  .methodLink RX7 95 yX7_idOf,
  .static yX7_idOf,
  .initialized RX7,
  .code yX7_idOf cX7_idOf 3 (some .long),
  .constantLong RX7 99 (32767),
  .constantLong RX7 105 (4294967294),
  .constantLong RX7 107 (64),
  .constantLong RX7 109 (8),
  .constantLong RX7 111 (512),
  .fieldLink RX7 113 "LampLineModel" "lamps" "I",
  .methodLink RX7 101 yX7_in,
  .static yX7_in,
  .code yX7_in cX7_in 6 (some .boolean),
  .fieldLink RX7 116 "LampLineModel" "taped" "I",
  .methodLink RX7 119 yX7_goes,
  .instanceMethod yX7_goes,
  .selects RX7 yX7_goes yX7_goes,
  .code yX7_goes cX7_goes 2 (some .boolean),
  .methodLink RX7 123 yX7_at,
  .instanceMethod yX7_at]
def WA10 : List Cond := [.selects RX7 yX7_at yX7_at,
  .code yX7_at cX7_at 2 (some .int),
  .constantLong RX7 127 (256),
  .fieldLink RX7 129 "LampLineModel" "frames" "I",
  .fieldLink RX7 138 "LampLineModel" "frameSize" "I",
  .methodLink RX7 173 yX7_footprint,
  .instanceMethod yX7_footprint,
  .selects RX7 yX7_footprint yX7_footprint,
  .code yX7_footprint cX7_footprint 2 (some .int),
  .constant RX7 176 (65536),
  .methodLink RX7 177 yX7_two,
  .instanceMethod yX7_two,
  .selects RX7 yX7_two yX7_two,
  .code yX7_two cX7_two 2 (some .int),
  .fieldLink RX7 160 "LampLineModel" "replySize" "I",
  .methodLink RX7 180 yX7_put,
  .instanceMethod yX7_put,
  .selects RX7 yX7_put yX7_put,
  .code yX7_put cX7_put 2 none,
  .methodLink RX7 153 yX7_ownId,
  .instanceMethod yX7_ownId,
  .selects RX7 yX7_ownId yX7_ownId,
  .code yX7_ownId cX7_ownId 2 (some .long),
  .methodLink RX7 183 yX7_putId,
  .instanceMethod yX7_putId,
  .selects RX7 yX7_putId yX7_putId,
  .code yX7_putId cX7_putId 4 none,
  .methodLink RX7 187 yX7_putTwo,
  .instanceMethod yX7_putTwo,
  .selects RX7 yX7_putTwo yX7_putTwo,
  .code yX7_putTwo cX7_putTwo 2 none,
  .methodLink RX7 190 yX7_waiting,
  .instanceMethod yX7_waiting,
  .selects RX7 yX7_waiting yX7_waiting,
  .code yX7_waiting cX7_waiting 4 (some .int),
  .methodLink RX7 149 yX7_six,
  .instanceMethod yX7_six,
  .selects RX7 yX7_six yX7_six,
  .code yX7_six cX7_six 5 (some .long),
  .methodLink RX7 202 yX7_show]
def WA11 : List Cond := [.instanceMethod yX7_show,
  .selects RX7 yX7_show yX7_show,
  .code yX7_show cX7_show 6 none,
  .methodLink RX7 205 yX7_begin,
  .instanceMethod yX7_begin,
  .selects RX7 yX7_begin yX7_begin,
  .code yX7_begin cX7_begin 6 none,
  .methodLink RX7 209 yX7_finish,
  .instanceMethod yX7_finish,
  .selects RX7 yX7_finish yX7_finish,
  .code yX7_finish cX7_finish 4 none,
  .methodLink RX7 212 yX7_refuse,
  .instanceMethod yX7_refuse,
  .selects RX7 yX7_refuse yX7_refuse,
  .code yX7_refuse cX7_refuse 4 none,
  .methodLink RX7 216 yX7_isMatter,
  .static yX7_isMatter,
  .code yX7_isMatter cX7_isMatter 1 (some .boolean),
  .methodLink RX7 220 yX7_getWaiting,
  .instanceMethod yX7_getWaiting,
  .selects RX7 yX7_getWaiting yX7_getWaiting,
  .code yX7_getWaiting cX7_getWaiting 6 none,
  .methodLink RX7 223 yX7_tell,
  .instanceMethod yX7_tell,
  .selects RX7 yX7_tell yX7_tell,
  .code yX7_tell cX7_tell 5 none,
  .constantLong RX7 235 (32),
  .constantLong RX7 237 (126),
  .constant RX7 227 (65535),
  .methodLink RX7 228 yX7_mayBe,
  .instanceMethod yX7_mayBe,
  .selects RX7 yX7_mayBe yX7_mayBe,
  .code yX7_mayBe cX7_mayBe 6 (some .boolean),
  .methodLink RX7 232 yX7_setLabel,
  .instanceMethod yX7_setLabel,
  .selects RX7 yX7_setLabel yX7_setLabel,
  .code yX7_setLabel cX7_setLabel 6 none,
  .methodLink RX7 193 yX7_hearSearch,
  .instanceMethod yX7_hearSearch,
  .selects RX7 yX7_hearSearch yX7_hearSearch]
def WA12 : List Cond := [.code yX7_hearSearch cX7_hearSearch 7 none,
  .methodLink RX7 196 yX7_get,
  .instanceMethod yX7_get,
  .selects RX7 yX7_get yX7_get,
  .code yX7_get cX7_get 3 none,
  .methodLink RX7 199 yX7_set,
  .instanceMethod yX7_set,
  .selects RX7 yX7_set yX7_set,
  .code yX7_set cX7_set 6 none,
  .fieldLink RX7 135 "LampLineModel" "answered" "I",
  .constantLong RX7 156 (4294967295),
  .constantLong RX7 158 (65535),
  .fieldLink RX7 170 "LampLineModel" "spoils" "I",
  .methodLink RX7 132 yX7_doDue,
  .instanceMethod yX7_doDue,
  .selects RX7 yX7_doDue yX7_doDue,
  .code yX7_doDue cX7_doDue 5 none,
  .methodLink RX7 141 yX7_takeLevels,
  .instanceMethod yX7_takeLevels,
  .selects RX7 yX7_takeLevels yX7_takeLevels,
  .code yX7_takeLevels cX7_takeLevels 3 none,
  .methodLink RX7 145 yX7_isPacket,
  .instanceMethod yX7_isPacket,
  .selects RX7 yX7_isPacket yX7_isPacket,
  .code yX7_isPacket cX7_isPacket 3 (some .boolean),
  .methodLink RX7 163 yX7_hear,
  .instanceMethod yX7_hear,
  .selects RX7 yX7_hear yX7_hear,
  .code yX7_hear cX7_hear 3 none,
  .methodLink RX7 167 yX7_fall,
  .instanceMethod yX7_fall,
  .selects RX7 yX7_fall yX7_fall,
  .code yX7_fall cX7_fall 2 none,
  .methodLink RX7 239 yX7_look,
  .instanceMethod yX7_look,
  .selects RX7 yX7_look yX7_look,
  .code yX7_look cX7_look 6 none,
  .methodLink RX7 242 yX7_write,
  .instanceMethod yX7_write,
  .selects RX7 yX7_write yX7_write]
def WA13 : List Cond := [.code yX7_write cX7_write 2 none,
  .fieldLink RX7 245 "LampLineModel" "counted" "I",
  .methodLink RX7 248 yX7_writeSix,
  .instanceMethod yX7_writeSix,
  .selects RX7 yX7_writeSix yX7_writeSix,
  .code yX7_writeSix cX7_writeSix 4 none,
  .methodLink RX7 251 yX7_heard,
  .instanceMethod yX7_heard,
  .selects RX7 yX7_heard yX7_heard,
  .code yX7_heard cX7_heard 2 (some .int),
  .methodLink RX7 254 yX7_heardSix,
  .instanceMethod yX7_heardSix,
  .selects RX7 yX7_heardSix yX7_heardSix,
  .code yX7_heardSix cX7_heardSix 5 (some .long),
  .constantLong RX7 257 (255),
  .methodLink RX7 259 yX7_beginPacket,
  .instanceMethod yX7_beginPacket,
  .selects RX7 yX7_beginPacket yX7_beginPacket,
  .code yX7_beginPacket cX7_beginPacket 6 none,
  .methodLink RX7 263 yX7_sendOff,
  .instanceMethod yX7_sendOff,
  .selects RX7 yX7_sendOff yX7_sendOff,
  .code yX7_sendOff cX7_sendOff 3 none,
  .methodLink RX7 266 yX7_isReply,
  .instanceMethod yX7_isReply,
  .selects RX7 yX7_isReply yX7_isReply,
  .code yX7_isReply cX7_isReply 5 (some .boolean),
  .constantLong RX7 270 (300),
  .constantLong RX7 275 (10),
  .methodLink RX7 272 yX7_isLamp,
  .instanceMethod yX7_isLamp,
  .selects RX7 yX7_isLamp yX7_isLamp,
  .code yX7_isLamp cX7_isLamp 2 (some .boolean),
  .fieldLink RX7 277 "LampLineModel" "searching" "Z",
  .fieldLink RX7 281 "LampLineModel" "steps" "I",
  .fieldLink RX7 284 "LampLineModel" "found" "I",
  .fieldLink RX7 287 "LampLineModel" "branches" "I",
  .constantLong RX7 290 (281474976710654),
  .constantLong RX7 292 (281474976710655),
  .methodLink RX7 294 yX7_isFound]
def WA14 : List Cond := [.instanceMethod yX7_isFound,
  .selects RX7 yX7_isFound yX7_isFound,
  .code yX7_isFound cX7_isFound 5 (some .boolean),
  .constantLong RX7 297 (-1),
  .constantLong RX7 314 (2),
  .methodLink RX7 299 yX7_isId,
  .static yX7_isId,
  .code yX7_isId cX7_isId 2 (some .boolean),
  .methodLink RX7 302 yX7_tried,
  .instanceMethod yX7_tried,
  .selects RX7 yX7_tried yX7_tried,
  .code yX7_tried cX7_tried 3 (some .int),
  .methodLink RX7 306 yX7_push,
  .instanceMethod yX7_push,
  .selects RX7 yX7_push yX7_push,
  .code yX7_push cX7_push 5 none,
  .methodLink RX7 310 yX7_shown,
  .instanceMethod yX7_shown,
  .selects RX7 yX7_shown yX7_shown,
  .code yX7_shown cX7_shown 8 (some .long),
  .constantLong RX7 316 (1000),
  .methodLink RX7 318 yX7_stepOnce,
  .instanceMethod yX7_stepOnce,
  .selects RX7 yX7_stepOnce yX7_stepOnce,
  .code yX7_stepOnce cX7_stepOnce 9 none,
  .classLink RL 13 "java/lang/IllegalArgumentException",
  .classLink RL 15 "java/lang/IllegalStateException",
  .methodLink RL 7 yX6_lamp,
  .instanceMethod yX6_lamp,
  .selects RX6 yX6_lamp yX6_lamp,
  .code yX6_lamp cX6_lamp 9 (some .int),
  .methodLink RL 17 yX6_feed,
  .instanceMethod yX6_feed,
  .selects RX6 yX6_feed yX6_feed,
  .code yX6_feed cX6_feed 6 (some .int),
  .methodLink RL 21 yX6_end,
  .instanceMethod yX6_end,
  .selects RX6 yX6_end yX6_end,
  .code yX6_end cX6_end 2 none,
  .classLink RL 29 "java/lang/IndexOutOfBoundsException"]
def WA15 : List Cond := [.methodLink RL 25 yX6_answer,
  .instanceMethod yX6_answer,
  .selects RX6 yX6_answer yX6_answer,
  .code yX6_answer cX6_answer 2 (some .int),
  .methodLink RL 31 yX6_ask,
  .instanceMethod yX6_ask,
  .selects RX6 yX6_ask yX6_ask,
  .code yX6_ask cX6_ask 9 (some .int),
  .methodLink RL 34 yX6_spoil,
  .instanceMethod yX6_spoil,
  .selects RX6 yX6_spoil yX6_spoil,
  .code yX6_spoil cX6_spoil 3 none,
  .methodLink RL 38 yX6_about,
  .instanceMethod yX6_about,
  .selects RX6 yX6_about yX6_about,
  .code yX6_about cX6_about 4 (some .int),
  .methodLink RL 42 yX6_rest,
  .instanceMethod yX6_rest,
  .selects RX6 yX6_rest yX6_rest,
  .code yX6_rest cX6_rest 2 (some .long),
  .methodLink RL 46 yX6_level,
  .instanceMethod yX6_level,
  .selects RX6 yX6_level yX6_level,
  .code yX6_level cX6_level 4 (some .int),
  .methodLink RL 49 yX6_label,
  .instanceMethod yX6_label,
  .selects RX6 yX6_label yX6_label,
  .code yX6_label cX6_label 4 (some .int),
  .methodLink RL 52 yX6_silence,
  .instanceMethod yX6_silence,
  .selects RX6 yX6_silence yX6_silence,
  .code yX6_silence cX6_silence 5 (some .int),
  .methodLink RL 56 yX6_step,
  .instanceMethod yX6_step,
  .selects RX6 yX6_step yX6_step,
  .code yX6_step cX6_step 3 (some .int),
  .methodLink RL 59 yX6_id,
  .instanceMethod yX6_id,
  .selects RX6 yX6_id yX6_id,
  .code yX6_id cX6_id 2 (some .long)]
def WA16 : List Cond := [.methodLink RL 62 yX6_branch,
  .instanceMethod yX6_branch,
  .selects RX6 yX6_branch yX6_branch,
  .code yX6_branch cX6_branch 2 (some .long),
  .classLink RL 8 RX6,
  .instantiable RX6 13,
  .classLink RL 66 RX7,
  .instantiable RX7 39,
  .constantLong RL 69 (4294967295),
  .methodLink RL 65 yX6_init,
  .instanceMethod yX6_init,
  .code yX6_init cX6_init 1 none,
  .methodLink RL 68 yX7_init,
  .instanceMethod yX7_init,
  .code yX7_init cX7_init 1 none,
  .methodLink RL 71 yL_lamp,
  .static yL_lamp,
  .initialized RL,
  .codeWith yL_lamp cL_lamp 9 (some .int) [(0, 17, 20, 13), (0, 17, 24, 15)],
  .methodLink RL 76 yX7_lamp,
  .instanceMethod yX7_lamp,
  .selects RX7 yX7_lamp yX7_lamp,
  .code yX7_lamp cX7_lamp 9 (some .int),
  .methodLink RL 77 yX7_thrown,
  .instanceMethod yX7_thrown,
  .selects RX7 yX7_thrown yX7_thrown,
  .code yX7_thrown cX7_thrown 1 (some .int),
  .methodLink RL 81 yL_feed,
  .static yL_feed,
  .codeWith yL_feed cL_feed 8 (some .int) [(0, 16, 19, 15)],
  .methodLink RL 84 yX7_feed,
  .instanceMethod yX7_feed,
  .selects RX7 yX7_feed yX7_feed,
  .code yX7_feed cX7_feed 8 (some .int),
  .methodLink RL 85 yL_end,
  .static yL_end,
  .codeWith yL_end cL_end 3 (some .int) [(0, 5, 8, 13)],
  .methodLink RL 88 yX7_end,
  .instanceMethod yX7_end,
  .selects RX7 yX7_end yX7_end]
def WA17 : List Cond := [.code yX7_end cX7_end 2 none,
  .methodLink RL 89 yX6_send,
  .instanceMethod yX6_send,
  .selects RX6 yX6_send yX6_send,
  .code yX6_send cX6_send 1 (some .int),
  .methodLink RL 92 yX7_send,
  .instanceMethod yX7_send,
  .selects RX7 yX7_send yX7_send,
  .code yX7_send cX7_send 2 (some .int),
  .methodLink RL 93 yL_answer,
  .static yL_answer,
  .codeWith yL_answer cL_answer 4 (some .int) [(0, 9, 12, 29)],
  .methodLink RL 96 yX7_answer,
  .instanceMethod yX7_answer,
  .selects RX7 yX7_answer yX7_answer,
  .code yX7_answer cX7_answer 2 (some .int),
  .methodLink RL 97 yL_ask,
  .static yL_ask,
  .codeWith yL_ask cL_ask 9 (some .int) [(0, 17, 20, 13)],
  .methodLink RL 99 yX7_ask,
  .instanceMethod yX7_ask,
  .selects RX7 yX7_ask yX7_ask,
  .code yX7_ask cX7_ask 8 (some .int),
  .methodLink RL 100 yL_spoil,
  .static yL_spoil,
  .codeWith yL_spoil cL_spoil 4 (some .int) [(0, 6, 9, 13)],
  .methodLink RL 103 yX7_spoil,
  .instanceMethod yX7_spoil,
  .selects RX7 yX7_spoil yX7_spoil,
  .code yX7_spoil cX7_spoil 4 none,
  .methodLink RL 104 yX6_frames,
  .instanceMethod yX6_frames,
  .selects RX6 yX6_frames yX6_frames,
  .code yX6_frames cX6_frames 1 (some .int),
  .methodLink RL 107 yX7_frames,
  .instanceMethod yX7_frames,
  .selects RX7 yX7_frames yX7_frames,
  .code yX7_frames cX7_frames 1 (some .int),
  .methodLink RL 108 yL_about,
  .static yL_about]
def WA18 : List Cond := [.codeWith yL_about cL_about 5 (some .int) [(0, 10, 13, 29)],
  .methodLink RL 111 yX7_about,
  .instanceMethod yX7_about,
  .selects RX7 yX7_about yX7_about,
  .code yX7_about cX7_about 3 (some .int),
  .methodLink RL 112 yL_rest,
  .static yL_rest,
  .codeWith yL_rest cL_rest 4 (some .int) [(0, 8, 11, 29)],
  .methodLink RL 114 yX7_rest,
  .instanceMethod yX7_rest,
  .selects RX7 yX7_rest yX7_rest,
  .code yX7_rest cX7_rest 2 (some .long),
  .methodLink RL 115 yL_level,
  .static yL_level,
  .codeWith yL_level cL_level 5 (some .int) [(0, 10, 13, 29)],
  .methodLink RL 117 yX7_level,
  .instanceMethod yX7_level,
  .selects RX7 yX7_level yX7_level,
  .code yX7_level cX7_level 3 (some .int),
  .methodLink RL 118 yL_label,
  .static yL_label,
  .codeWith yL_label cL_label 5 (some .int) [(0, 10, 13, 29)],
  .methodLink RL 120 yX7_label,
  .instanceMethod yX7_label,
  .selects RX7 yX7_label yX7_label,
  .code yX7_label cX7_label 3 (some .int),
  .methodLink RL 121 yL_silence,
  .static yL_silence,
  .codeWith yL_silence cL_silence 5 (some .int) [(0, 10, 13, 29)],
  .methodLink RL 124 yX7_silence,
  .instanceMethod yX7_silence,
  .selects RX7 yX7_silence yX7_silence,
  .code yX7_silence cX7_silence 4 (some .int),
  .methodLink RL 125 yX6_search,
  .instanceMethod yX6_search,
  .selects RX6 yX6_search yX6_search,
  .code yX6_search cX6_search 1 (some .int),
  .methodLink RL 128 yX7_search,
  .instanceMethod yX7_search,
  .selects RX7 yX7_search yX7_search]
def WA19 : List Cond := [.code yX7_search cX7_search 1 (some .int),
  .methodLink RL 129 yL_step,
  .static yL_step,
  .codeWith yL_step cL_step 4 (some .int) [(0, 9, 12, 15), (0, 9, 15, 13)],
  .methodLink RL 131 yX7_step,
  .instanceMethod yX7_step,
  .selects RX7 yX7_step yX7_step,
  .code yX7_step cX7_step 3 (some .int),
  .methodLink RL 132 yX6_found,
  .instanceMethod yX6_found,
  .selects RX6 yX6_found yX6_found,
  .code yX6_found cX6_found 1 (some .int),
  .methodLink RL 135 yX7_found,
  .instanceMethod yX7_found,
  .selects RX7 yX7_found yX7_found,
  .code yX7_found cX7_found 1 (some .int),
  .methodLink RL 136 yL_id,
  .static yL_id,
  .codeWith yL_id cL_id 4 (some .int) [(0, 8, 11, 29)],
  .methodLink RL 138 yX7_id,
  .instanceMethod yX7_id,
  .selects RX7 yX7_id yX7_id,
  .code yX7_id cX7_id 2 (some .long),
  .methodLink RL 139 yL_branch,
  .static yL_branch,
  .codeWith yL_branch cL_branch 4 (some .int) [(0, 8, 11, 29)],
  .methodLink RL 141 yX7_branch,
  .instanceMethod yX7_branch,
  .selects RX7 yX7_branch yX7_branch,
  .code yX7_branch cX7_branch 2 (some .long),
  .code yJ9_min_7cf53 cJ9_min_7cf53 2 (some .int)]
def vxA1 : List Cond := (vx_atS RX6 66 "java/lang/IllegalArgumentException" ["java/lang/RuntimeException", "java/lang/Exception"]).filter goodWord
def vxA2 : List Cond := (vx_atS RX6 95 "java/lang/IllegalStateException" ["java/lang/RuntimeException", "java/lang/Exception"]).filter goodWord
def vxA3 : List Cond := (vx_atS RX6 125 "java/lang/IndexOutOfBoundsException" ["java/lang/RuntimeException", "java/lang/Exception"]).filter goodWord
def AL : List Cond := wsX10 ++ (wsX20 ++ (wsX30 ++ (wsX40 ++ (wsX50 ++ (wsX60 ++ (wsX70 ++ (WA0 ++ (WA1 ++ (WA2 ++ (WA3 ++ (WA4 ++ (WA5 ++ (WA6 ++ (WA7 ++ (WA8 ++ (WA9 ++ (WA10 ++ (WA11 ++ (WA12 ++ (WA13 ++ (WA14 ++ (WA15 ++ (WA16 ++ (WA17 ++ (WA18 ++ (WA19 ++ (vxA1 ++ (vxA2 ++ (vxA3)))))))))))))))))))))))))))))
theorem ia_X1 : ∀ w ∈ wsX10, w ∈ AL := fun w h => List.mem_append_left _ h
theorem ia_X2 : ∀ w ∈ wsX20, w ∈ AL := fun w h => List.mem_append_right _ (List.mem_append_left _ h)
theorem ia_X3 : ∀ w ∈ wsX30, w ∈ AL := fun w h => List.mem_append_right _ (List.mem_append_right _ (List.mem_append_left _ h))
theorem ia_X4 : ∀ w ∈ wsX40, w ∈ AL := fun w h => List.mem_append_right _ (List.mem_append_right _ (List.mem_append_right _ (List.mem_append_left _ h)))
theorem ia_X5 : ∀ w ∈ wsX50, w ∈ AL := fun w h => List.mem_append_right _ (List.mem_append_right _ (List.mem_append_right _ (List.mem_append_right _ (List.mem_append_left _ h))))
theorem ia_X6 : ∀ w ∈ wsX60, w ∈ AL := fun w h => List.mem_append_right _ (List.mem_append_right _ (List.mem_append_right _ (List.mem_append_right _ (List.mem_append_right _ (List.mem_append_left _ h)))))
theorem ia_X7 : ∀ w ∈ wsX70, w ∈ AL := fun w h => List.mem_append_right _ (List.mem_append_right _ (List.mem_append_right _ (List.mem_append_right _ (List.mem_append_right _ (List.mem_append_right _ (List.mem_append_left _ h))))))
theorem ia_A0 : ∀ w ∈ WA0, w ∈ AL := fun w h => List.mem_append_right _ (List.mem_append_right _ (List.mem_append_right _ (List.mem_append_right _ (List.mem_append_right _ (List.mem_append_right _ (List.mem_append_right _ (List.mem_append_left _ h)))))))
theorem ia_A1 : ∀ w ∈ WA1, w ∈ AL := fun w h => List.mem_append_right _ (List.mem_append_right _ (List.mem_append_right _ (List.mem_append_right _ (List.mem_append_right _ (List.mem_append_right _ (List.mem_append_right _ (List.mem_append_right _ (List.mem_append_left _ h))))))))
theorem ia_A2 : ∀ w ∈ WA2, w ∈ AL := fun w h => List.mem_append_right _ (List.mem_append_right _ (List.mem_append_right _ (List.mem_append_right _ (List.mem_append_right _ (List.mem_append_right _ (List.mem_append_right _ (List.mem_append_right _ (List.mem_append_right _ (List.mem_append_left _ h)))))))))
theorem ia_A3 : ∀ w ∈ WA3, w ∈ AL := fun w h => List.mem_append_right _ (List.mem_append_right _ (List.mem_append_right _ (List.mem_append_right _ (List.mem_append_right _ (List.mem_append_right _ (List.mem_append_right _ (List.mem_append_right _ (List.mem_append_right _ (List.mem_append_right _ (List.mem_append_left _ h))))))))))
theorem ia_A4 : ∀ w ∈ WA4, w ∈ AL := fun w h => List.mem_append_right _ (List.mem_append_right _ (List.mem_append_right _ (List.mem_append_right _ (List.mem_append_right _ (List.mem_append_right _ (List.mem_append_right _ (List.mem_append_right _ (List.mem_append_right _ (List.mem_append_right _ (List.mem_append_right _ (List.mem_append_left _ h)))))))))))
theorem ia_A5 : ∀ w ∈ WA5, w ∈ AL := fun w h => List.mem_append_right _ (List.mem_append_right _ (List.mem_append_right _ (List.mem_append_right _ (List.mem_append_right _ (List.mem_append_right _ (List.mem_append_right _ (List.mem_append_right _ (List.mem_append_right _ (List.mem_append_right _ (List.mem_append_right _ (List.mem_append_right _ (List.mem_append_left _ h))))))))))))
theorem ia_A6 : ∀ w ∈ WA6, w ∈ AL := fun w h => List.mem_append_right _ (List.mem_append_right _ (List.mem_append_right _ (List.mem_append_right _ (List.mem_append_right _ (List.mem_append_right _ (List.mem_append_right _ (List.mem_append_right _ (List.mem_append_right _ (List.mem_append_right _ (List.mem_append_right _ (List.mem_append_right _ (List.mem_append_right _ (List.mem_append_left _ h)))))))))))))
theorem ia_A7 : ∀ w ∈ WA7, w ∈ AL := fun w h => List.mem_append_right _ (List.mem_append_right _ (List.mem_append_right _ (List.mem_append_right _ (List.mem_append_right _ (List.mem_append_right _ (List.mem_append_right _ (List.mem_append_right _ (List.mem_append_right _ (List.mem_append_right _ (List.mem_append_right _ (List.mem_append_right _ (List.mem_append_right _ (List.mem_append_right _ (List.mem_append_left _ h))))))))))))))
theorem ia_A8 : ∀ w ∈ WA8, w ∈ AL := fun w h => List.mem_append_right _ (List.mem_append_right _ (List.mem_append_right _ (List.mem_append_right _ (List.mem_append_right _ (List.mem_append_right _ (List.mem_append_right _ (List.mem_append_right _ (List.mem_append_right _ (List.mem_append_right _ (List.mem_append_right _ (List.mem_append_right _ (List.mem_append_right _ (List.mem_append_right _ (List.mem_append_right _ (List.mem_append_left _ h)))))))))))))))
theorem ia_A9 : ∀ w ∈ WA9, w ∈ AL := fun w h => List.mem_append_right _ (List.mem_append_right _ (List.mem_append_right _ (List.mem_append_right _ (List.mem_append_right _ (List.mem_append_right _ (List.mem_append_right _ (List.mem_append_right _ (List.mem_append_right _ (List.mem_append_right _ (List.mem_append_right _ (List.mem_append_right _ (List.mem_append_right _ (List.mem_append_right _ (List.mem_append_right _ (List.mem_append_right _ (List.mem_append_left _ h))))))))))))))))
theorem ia_A10 : ∀ w ∈ WA10, w ∈ AL := fun w h => List.mem_append_right _ (List.mem_append_right _ (List.mem_append_right _ (List.mem_append_right _ (List.mem_append_right _ (List.mem_append_right _ (List.mem_append_right _ (List.mem_append_right _ (List.mem_append_right _ (List.mem_append_right _ (List.mem_append_right _ (List.mem_append_right _ (List.mem_append_right _ (List.mem_append_right _ (List.mem_append_right _ (List.mem_append_right _ (List.mem_append_right _ (List.mem_append_left _ h)))))))))))))))))
theorem ia_A11 : ∀ w ∈ WA11, w ∈ AL := fun w h => List.mem_append_right _ (List.mem_append_right _ (List.mem_append_right _ (List.mem_append_right _ (List.mem_append_right _ (List.mem_append_right _ (List.mem_append_right _ (List.mem_append_right _ (List.mem_append_right _ (List.mem_append_right _ (List.mem_append_right _ (List.mem_append_right _ (List.mem_append_right _ (List.mem_append_right _ (List.mem_append_right _ (List.mem_append_right _ (List.mem_append_right _ (List.mem_append_right _ (List.mem_append_left _ h))))))))))))))))))
theorem ia_A12 : ∀ w ∈ WA12, w ∈ AL := fun w h => List.mem_append_right _ (List.mem_append_right _ (List.mem_append_right _ (List.mem_append_right _ (List.mem_append_right _ (List.mem_append_right _ (List.mem_append_right _ (List.mem_append_right _ (List.mem_append_right _ (List.mem_append_right _ (List.mem_append_right _ (List.mem_append_right _ (List.mem_append_right _ (List.mem_append_right _ (List.mem_append_right _ (List.mem_append_right _ (List.mem_append_right _ (List.mem_append_right _ (List.mem_append_right _ (List.mem_append_left _ h)))))))))))))))))))
theorem ia_A13 : ∀ w ∈ WA13, w ∈ AL := fun w h => List.mem_append_right _ (List.mem_append_right _ (List.mem_append_right _ (List.mem_append_right _ (List.mem_append_right _ (List.mem_append_right _ (List.mem_append_right _ (List.mem_append_right _ (List.mem_append_right _ (List.mem_append_right _ (List.mem_append_right _ (List.mem_append_right _ (List.mem_append_right _ (List.mem_append_right _ (List.mem_append_right _ (List.mem_append_right _ (List.mem_append_right _ (List.mem_append_right _ (List.mem_append_right _ (List.mem_append_right _ (List.mem_append_left _ h))))))))))))))))))))
theorem ia_A14 : ∀ w ∈ WA14, w ∈ AL := fun w h => List.mem_append_right _ (List.mem_append_right _ (List.mem_append_right _ (List.mem_append_right _ (List.mem_append_right _ (List.mem_append_right _ (List.mem_append_right _ (List.mem_append_right _ (List.mem_append_right _ (List.mem_append_right _ (List.mem_append_right _ (List.mem_append_right _ (List.mem_append_right _ (List.mem_append_right _ (List.mem_append_right _ (List.mem_append_right _ (List.mem_append_right _ (List.mem_append_right _ (List.mem_append_right _ (List.mem_append_right _ (List.mem_append_right _ (List.mem_append_left _ h)))))))))))))))))))))
theorem ia_A15 : ∀ w ∈ WA15, w ∈ AL := fun w h => List.mem_append_right _ (List.mem_append_right _ (List.mem_append_right _ (List.mem_append_right _ (List.mem_append_right _ (List.mem_append_right _ (List.mem_append_right _ (List.mem_append_right _ (List.mem_append_right _ (List.mem_append_right _ (List.mem_append_right _ (List.mem_append_right _ (List.mem_append_right _ (List.mem_append_right _ (List.mem_append_right _ (List.mem_append_right _ (List.mem_append_right _ (List.mem_append_right _ (List.mem_append_right _ (List.mem_append_right _ (List.mem_append_right _ (List.mem_append_right _ (List.mem_append_left _ h))))))))))))))))))))))
theorem ia_A16 : ∀ w ∈ WA16, w ∈ AL := fun w h => List.mem_append_right _ (List.mem_append_right _ (List.mem_append_right _ (List.mem_append_right _ (List.mem_append_right _ (List.mem_append_right _ (List.mem_append_right _ (List.mem_append_right _ (List.mem_append_right _ (List.mem_append_right _ (List.mem_append_right _ (List.mem_append_right _ (List.mem_append_right _ (List.mem_append_right _ (List.mem_append_right _ (List.mem_append_right _ (List.mem_append_right _ (List.mem_append_right _ (List.mem_append_right _ (List.mem_append_right _ (List.mem_append_right _ (List.mem_append_right _ (List.mem_append_right _ (List.mem_append_left _ h)))))))))))))))))))))))
theorem ia_A17 : ∀ w ∈ WA17, w ∈ AL := fun w h => List.mem_append_right _ (List.mem_append_right _ (List.mem_append_right _ (List.mem_append_right _ (List.mem_append_right _ (List.mem_append_right _ (List.mem_append_right _ (List.mem_append_right _ (List.mem_append_right _ (List.mem_append_right _ (List.mem_append_right _ (List.mem_append_right _ (List.mem_append_right _ (List.mem_append_right _ (List.mem_append_right _ (List.mem_append_right _ (List.mem_append_right _ (List.mem_append_right _ (List.mem_append_right _ (List.mem_append_right _ (List.mem_append_right _ (List.mem_append_right _ (List.mem_append_right _ (List.mem_append_right _ (List.mem_append_left _ h))))))))))))))))))))))))
theorem ia_A18 : ∀ w ∈ WA18, w ∈ AL := fun w h => List.mem_append_right _ (List.mem_append_right _ (List.mem_append_right _ (List.mem_append_right _ (List.mem_append_right _ (List.mem_append_right _ (List.mem_append_right _ (List.mem_append_right _ (List.mem_append_right _ (List.mem_append_right _ (List.mem_append_right _ (List.mem_append_right _ (List.mem_append_right _ (List.mem_append_right _ (List.mem_append_right _ (List.mem_append_right _ (List.mem_append_right _ (List.mem_append_right _ (List.mem_append_right _ (List.mem_append_right _ (List.mem_append_right _ (List.mem_append_right _ (List.mem_append_right _ (List.mem_append_right _ (List.mem_append_right _ (List.mem_append_left _ h)))))))))))))))))))))))))
theorem ia_A19 : ∀ w ∈ WA19, w ∈ AL := fun w h => List.mem_append_right _ (List.mem_append_right _ (List.mem_append_right _ (List.mem_append_right _ (List.mem_append_right _ (List.mem_append_right _ (List.mem_append_right _ (List.mem_append_right _ (List.mem_append_right _ (List.mem_append_right _ (List.mem_append_right _ (List.mem_append_right _ (List.mem_append_right _ (List.mem_append_right _ (List.mem_append_right _ (List.mem_append_right _ (List.mem_append_right _ (List.mem_append_right _ (List.mem_append_right _ (List.mem_append_right _ (List.mem_append_right _ (List.mem_append_right _ (List.mem_append_right _ (List.mem_append_right _ (List.mem_append_right _ (List.mem_append_right _ (List.mem_append_left _ h))))))))))))))))))))))))))
theorem ia_vxA1 : ∀ w ∈ vxA1, w ∈ AL := fun w h => List.mem_append_right _ (List.mem_append_right _ (List.mem_append_right _ (List.mem_append_right _ (List.mem_append_right _ (List.mem_append_right _ (List.mem_append_right _ (List.mem_append_right _ (List.mem_append_right _ (List.mem_append_right _ (List.mem_append_right _ (List.mem_append_right _ (List.mem_append_right _ (List.mem_append_right _ (List.mem_append_right _ (List.mem_append_right _ (List.mem_append_right _ (List.mem_append_right _ (List.mem_append_right _ (List.mem_append_right _ (List.mem_append_right _ (List.mem_append_right _ (List.mem_append_right _ (List.mem_append_right _ (List.mem_append_right _ (List.mem_append_right _ (List.mem_append_right _ (List.mem_append_left _ h)))))))))))))))))))))))))))
theorem ia_vxA2 : ∀ w ∈ vxA2, w ∈ AL := fun w h => List.mem_append_right _ (List.mem_append_right _ (List.mem_append_right _ (List.mem_append_right _ (List.mem_append_right _ (List.mem_append_right _ (List.mem_append_right _ (List.mem_append_right _ (List.mem_append_right _ (List.mem_append_right _ (List.mem_append_right _ (List.mem_append_right _ (List.mem_append_right _ (List.mem_append_right _ (List.mem_append_right _ (List.mem_append_right _ (List.mem_append_right _ (List.mem_append_right _ (List.mem_append_right _ (List.mem_append_right _ (List.mem_append_right _ (List.mem_append_right _ (List.mem_append_right _ (List.mem_append_right _ (List.mem_append_right _ (List.mem_append_right _ (List.mem_append_right _ (List.mem_append_right _ (List.mem_append_left _ h))))))))))))))))))))))))))))
theorem ia_vxA3 : ∀ w ∈ vxA3, w ∈ AL := fun w h => List.mem_append_right _ (List.mem_append_right _ (List.mem_append_right _ (List.mem_append_right _ (List.mem_append_right _ (List.mem_append_right _ (List.mem_append_right _ (List.mem_append_right _ (List.mem_append_right _ (List.mem_append_right _ (List.mem_append_right _ (List.mem_append_right _ (List.mem_append_right _ (List.mem_append_right _ (List.mem_append_right _ (List.mem_append_right _ (List.mem_append_right _ (List.mem_append_right _ (List.mem_append_right _ (List.mem_append_right _ (List.mem_append_right _ (List.mem_append_right _ (List.mem_append_right _ (List.mem_append_right _ (List.mem_append_right _ (List.mem_append_right _ (List.mem_append_right _ (List.mem_append_right _ (List.mem_append_right _ (h)))))))))))))))))))))))))))))
theorem ga_X1 : ∀ w ∈ wsX10, goodWord w = true := fun w h => List.all_eq_true.mp (show List.all wsX10 goodWord = true by decide +kernel) w h
theorem ga_X2 : ∀ w ∈ wsX20, goodWord w = true := fun w h => List.all_eq_true.mp (show List.all wsX20 goodWord = true by decide +kernel) w h
theorem ga_X3 : ∀ w ∈ wsX30, goodWord w = true := fun w h => List.all_eq_true.mp (show List.all wsX30 goodWord = true by decide +kernel) w h
theorem ga_X4 : ∀ w ∈ wsX40, goodWord w = true := fun w h => List.all_eq_true.mp (show List.all wsX40 goodWord = true by decide +kernel) w h
theorem ga_X5 : ∀ w ∈ wsX50, goodWord w = true := fun w h => List.all_eq_true.mp (show List.all wsX50 goodWord = true by decide +kernel) w h
theorem ga_X6 : ∀ w ∈ wsX60, goodWord w = true := fun w h => List.all_eq_true.mp (show List.all wsX60 goodWord = true by decide +kernel) w h
theorem ga_X7 : ∀ w ∈ wsX70, goodWord w = true := fun w h => List.all_eq_true.mp (show List.all wsX70 goodWord = true by decide +kernel) w h
theorem ga_A0 : ∀ w ∈ WA0, goodWord w = true := fun w h => List.all_eq_true.mp (show List.all WA0 goodWord = true by decide +kernel) w h
theorem ga_A1 : ∀ w ∈ WA1, goodWord w = true := fun w h => List.all_eq_true.mp (show List.all WA1 goodWord = true by decide +kernel) w h
theorem ga_A2 : ∀ w ∈ WA2, goodWord w = true := fun w h => List.all_eq_true.mp (show List.all WA2 goodWord = true by decide +kernel) w h
theorem ga_A3 : ∀ w ∈ WA3, goodWord w = true := fun w h => List.all_eq_true.mp (show List.all WA3 goodWord = true by decide +kernel) w h
theorem ga_A4 : ∀ w ∈ WA4, goodWord w = true := fun w h => List.all_eq_true.mp (show List.all WA4 goodWord = true by decide +kernel) w h
theorem ga_A5 : ∀ w ∈ WA5, goodWord w = true := fun w h => List.all_eq_true.mp (show List.all WA5 goodWord = true by decide +kernel) w h
theorem ga_A6 : ∀ w ∈ WA6, goodWord w = true := fun w h => List.all_eq_true.mp (show List.all WA6 goodWord = true by decide +kernel) w h
theorem ga_A7 : ∀ w ∈ WA7, goodWord w = true := fun w h => List.all_eq_true.mp (show List.all WA7 goodWord = true by decide +kernel) w h
theorem ga_A8 : ∀ w ∈ WA8, goodWord w = true := fun w h => List.all_eq_true.mp (show List.all WA8 goodWord = true by decide +kernel) w h
theorem ga_A9 : ∀ w ∈ WA9, goodWord w = true := fun w h => List.all_eq_true.mp (show List.all WA9 goodWord = true by decide +kernel) w h
theorem ga_A10 : ∀ w ∈ WA10, goodWord w = true := fun w h => List.all_eq_true.mp (show List.all WA10 goodWord = true by decide +kernel) w h
theorem ga_A11 : ∀ w ∈ WA11, goodWord w = true := fun w h => List.all_eq_true.mp (show List.all WA11 goodWord = true by decide +kernel) w h
theorem ga_A12 : ∀ w ∈ WA12, goodWord w = true := fun w h => List.all_eq_true.mp (show List.all WA12 goodWord = true by decide +kernel) w h
theorem ga_A13 : ∀ w ∈ WA13, goodWord w = true := fun w h => List.all_eq_true.mp (show List.all WA13 goodWord = true by decide +kernel) w h
theorem ga_A14 : ∀ w ∈ WA14, goodWord w = true := fun w h => List.all_eq_true.mp (show List.all WA14 goodWord = true by decide +kernel) w h
theorem ga_A15 : ∀ w ∈ WA15, goodWord w = true := fun w h => List.all_eq_true.mp (show List.all WA15 goodWord = true by decide +kernel) w h
theorem ga_A16 : ∀ w ∈ WA16, goodWord w = true := fun w h => List.all_eq_true.mp (show List.all WA16 goodWord = true by decide +kernel) w h
theorem ga_A17 : ∀ w ∈ WA17, goodWord w = true := fun w h => List.all_eq_true.mp (show List.all WA17 goodWord = true by decide +kernel) w h
theorem ga_A18 : ∀ w ∈ WA18, goodWord w = true := fun w h => List.all_eq_true.mp (show List.all WA18 goodWord = true by decide +kernel) w h
theorem ga_A19 : ∀ w ∈ WA19, goodWord w = true := fun w h => List.all_eq_true.mp (show List.all WA19 goodWord = true by decide +kernel) w h
theorem ga_vxA1 : ∀ w ∈ vxA1, goodWord w = true := fun w h => (List.mem_filter.mp h).2
theorem ga_vxA2 : ∀ w ∈ vxA2, goodWord w = true := fun w h => (List.mem_filter.mp h).2
theorem ga_vxA3 : ∀ w ∈ vxA3, goodWord w = true := fun w h => (List.mem_filter.mp h).2
theorem ga_AL : ∀ w ∈ AL, goodWord w = true := List.forall_mem_append.mpr ⟨ga_X1, List.forall_mem_append.mpr ⟨ga_X2, List.forall_mem_append.mpr ⟨ga_X3, List.forall_mem_append.mpr ⟨ga_X4, List.forall_mem_append.mpr ⟨ga_X5, List.forall_mem_append.mpr ⟨ga_X6, List.forall_mem_append.mpr ⟨ga_X7, List.forall_mem_append.mpr ⟨ga_A0, List.forall_mem_append.mpr ⟨ga_A1, List.forall_mem_append.mpr ⟨ga_A2, List.forall_mem_append.mpr ⟨ga_A3, List.forall_mem_append.mpr ⟨ga_A4, List.forall_mem_append.mpr ⟨ga_A5, List.forall_mem_append.mpr ⟨ga_A6, List.forall_mem_append.mpr ⟨ga_A7, List.forall_mem_append.mpr ⟨ga_A8, List.forall_mem_append.mpr ⟨ga_A9, List.forall_mem_append.mpr ⟨ga_A10, List.forall_mem_append.mpr ⟨ga_A11, List.forall_mem_append.mpr ⟨ga_A12, List.forall_mem_append.mpr ⟨ga_A13, List.forall_mem_append.mpr ⟨ga_A14, List.forall_mem_append.mpr ⟨ga_A15, List.forall_mem_append.mpr ⟨ga_A16, List.forall_mem_append.mpr ⟨ga_A17, List.forall_mem_append.mpr ⟨ga_A18, List.forall_mem_append.mpr ⟨ga_A19, List.forall_mem_append.mpr ⟨ga_vxA1, List.forall_mem_append.mpr ⟨ga_vxA2, ga_vxA3⟩⟩⟩⟩⟩⟩⟩⟩⟩⟩⟩⟩⟩⟩⟩⟩⟩⟩⟩⟩⟩⟩⟩⟩⟩⟩⟩⟩⟩
theorem gz {c : Cond} (hc : c ∈ AL) : GoodIn AL (c :: AL) := fun w h => (List.mem_cons.mp h).elim (fun e => by rw [e]; exact ⟨hc, good_of_word (ga_AL _ hc)⟩) (fun h => ⟨h, good_of_word (ga_AL _ h)⟩)
theorem gV {own C : String} {idx : Nat} {y : MethodName} {ws : List Cond} (h1 : Cond.methodLink own idx y ∈ AL) (h2 : Cond.instanceMethod y ∈ AL) (h3 : Cond.selects C y y ∈ AL) (h4 : Cond.initialized C ∈ AL) (hz : GoodIn AL ws) : GoodIn AL (wsV own idx C y ws) := goodIn_app (List.forall_mem_cons.mpr ⟨⟨h1, good_of_word (ga_AL _ h1)⟩, List.forall_mem_cons.mpr ⟨⟨h2, good_of_word (ga_AL _ h2)⟩, List.forall_mem_cons.mpr ⟨⟨h3, good_of_word (ga_AL _ h3)⟩, List.forall_mem_cons.mpr ⟨⟨h4, good_of_word (ga_AL _ h4)⟩, fun _ h => absurd h List.not_mem_nil⟩⟩⟩⟩) hz
theorem gS {own : String} {idx : Nat} {y : MethodName} {ws : List Cond} (h1 : Cond.methodLink own idx y ∈ AL) (h2 : Cond.static y ∈ AL) (h3 : Cond.initialized y.cls ∈ AL) (hz : GoodIn AL ws) : GoodIn AL (va_wsS own idx y ws) := goodIn_app (List.forall_mem_cons.mpr ⟨⟨h1, good_of_word (ga_AL _ h1)⟩, List.forall_mem_cons.mpr ⟨⟨h2, good_of_word (ga_AL _ h2)⟩, List.forall_mem_cons.mpr ⟨⟨h3, good_of_word (ga_AL _ h3)⟩, fun _ h => absurd h List.not_mem_nil⟩⟩⟩) hz
theorem aw_0 : Cond.fieldLink RX3 13 "LampLine$Row" "size" "I" ∈ AL := ia_A0 _ (List.mem_of_getElem? (i := 0) rfl)
theorem aw_1 : Cond.fieldLink RX3 7 "LampLine$Row" "cells" "[I" ∈ AL := ia_A0 _ (List.mem_of_getElem? (i := 1) rfl)
theorem aw_2 : Cond.constant RX3 21 (65535) ∈ AL := ia_A0 _ (List.mem_of_getElem? (i := 2) rfl)
theorem aw_3 : Cond.methodLink RX0 9 yX3_cut ∈ AL := ia_A0 _ (List.mem_of_getElem? (i := 3) rfl)
theorem aw_4 : Cond.instanceMethod yX3_cut ∈ AL := ia_A0 _ (List.mem_of_getElem? (i := 4) rfl)
theorem aw_5 : Cond.selects RX3 yX3_cut yX3_cut ∈ AL := ia_A0 _ (List.mem_of_getElem? (i := 5) rfl)
theorem aw_6 : Cond.initialized RX3 ∈ AL := ia_A0 _ (List.mem_of_getElem? (i := 6) rfl)
theorem aw_7 : Cond.code yX3_cut cX3_cut 2 none ∈ AL := ia_A0 _ (List.mem_of_getElem? (i := 7) rfl)
theorem aw_8 : Cond.methodLink RX0 17 yX3_put ∈ AL := ia_A0 _ (List.mem_of_getElem? (i := 8) rfl)
theorem aw_9 : Cond.instanceMethod yX3_put ∈ AL := ia_A0 _ (List.mem_of_getElem? (i := 9) rfl)
theorem aw_10 : Cond.selects RX3 yX3_put yX3_put ∈ AL := ia_A0 _ (List.mem_of_getElem? (i := 10) rfl)
theorem aw_11 : Cond.code yX3_put cX3_put 2 none ∈ AL := ia_A0 _ (List.mem_of_getElem? (i := 11) rfl)
theorem aw_12 : Cond.methodLink RX0 20 yX3_sum ∈ AL := ia_A0 _ (List.mem_of_getElem? (i := 12) rfl)
theorem aw_13 : Cond.instanceMethod yX3_sum ∈ AL := ia_A0 _ (List.mem_of_getElem? (i := 13) rfl)
theorem aw_14 : Cond.selects RX3 yX3_sum yX3_sum ∈ AL := ia_A0 _ (List.mem_of_getElem? (i := 14) rfl)
theorem aw_15 : Cond.code yX3_sum cX3_sum 5 (some .int) ∈ AL := ia_A0 _ (List.mem_of_getElem? (i := 15) rfl)
theorem aw_16 : Cond.constantLong RX0 28 (-1) ∈ AL := ia_A0 _ (List.mem_of_getElem? (i := 16) rfl)
theorem aw_17 : Cond.constantLong RX0 34 (65535) ∈ AL := ia_A0 _ (List.mem_of_getElem? (i := 17) rfl)
theorem aw_18 : Cond.methodLink RX0 24 yX3_size ∈ AL := ia_A0 _ (List.mem_of_getElem? (i := 18) rfl)
theorem aw_19 : Cond.instanceMethod yX3_size ∈ AL := ia_A0 _ (List.mem_of_getElem? (i := 19) rfl)
theorem aw_20 : Cond.selects RX3 yX3_size yX3_size ∈ AL := ia_A0 _ (List.mem_of_getElem? (i := 20) rfl)
theorem aw_21 : Cond.code yX3_size cX3_size 1 (some .int) ∈ AL := ia_A0 _ (List.mem_of_getElem? (i := 21) rfl)
theorem aw_22 : Cond.methodLink RX0 30 yX3_at ∈ AL := ia_A0 _ (List.mem_of_getElem? (i := 22) rfl)
theorem aw_23 : Cond.instanceMethod yX3_at ∈ AL := ia_A0 _ (List.mem_of_getElem? (i := 23) rfl)
theorem aw_24 : Cond.selects RX3 yX3_at yX3_at ∈ AL := ia_A0 _ (List.mem_of_getElem? (i := 24) rfl)
theorem aw_25 : Cond.code yX3_at cX3_at 2 (some .int) ∈ AL := ia_A0 _ (List.mem_of_getElem? (i := 25) rfl)
theorem aw_26 : Cond.methodLink RX3 1 objectInit ∈ AL := ia_A0 _ (List.mem_of_getElem? (i := 26) rfl)
theorem aw_27 : Cond.instanceMethod objectInit ∈ AL := ia_A0 _ (List.mem_of_getElem? (i := 27) rfl)
theorem aw_28 : Cond.code objectInit ⟨#[0xb1]⟩ 1 none ∈ AL := ia_A0 _ (List.mem_of_getElem? (i := 28) rfl)
theorem aw_29 : Cond.arrayClass .int ∈ AL := ia_A0 _ (List.mem_of_getElem? (i := 29) rfl)
theorem aw_30 : Cond.methodLink RX1 3 objectInit ∈ AL := ia_A0 _ (List.mem_of_getElem? (i := 30) rfl)
theorem aw_31 : Cond.fieldLink RX1 9 "LampLine$Lamp" "levels" "[I" ∈ AL := ia_A0 _ (List.mem_of_getElem? (i := 31) rfl)
theorem aw_32 : Cond.classLink RX1 15 RX3 ∈ AL := ia_A0 _ (List.mem_of_getElem? (i := 32) rfl)
theorem aw_33 : Cond.instantiable RX3 2 ∈ AL := ia_A0 _ (List.mem_of_getElem? (i := 33) rfl)
theorem aw_34 : Cond.fieldLink RX1 20 "LampLine$Lamp" "text" "LLampLine$Row;" ∈ AL := ia_A0 _ (List.mem_of_getElem? (i := 34) rfl)
theorem aw_35 : Cond.fieldLink RX1 24 "LampLine$Lamp" "laterTexts" "[LLampLine$Row;" ∈ AL := ia_A0 _ (List.mem_of_getElem? (i := 35) rfl)
theorem aw_36 : Cond.arrayClass .boolean ∈ AL := ia_A0 _ (List.mem_of_getElem? (i := 36) rfl)
theorem aw_37 : Cond.fieldLink RX1 28 "LampLine$Lamp" "isLater" "[Z" ∈ AL := ia_A0 _ (List.mem_of_getElem? (i := 37) rfl)
theorem aw_38 : Cond.fieldLink RX1 32 "LampLine$Lamp" "mode" "I" ∈ AL := ia_A0 _ (List.mem_of_getElem? (i := 38) rfl)
theorem aw_39 : Cond.fieldLink RX1 36 "LampLine$Lamp" "id" "J" ∈ AL := ia_A0 _ (List.mem_of_getElem? (i := 39) rfl)
theorem aw_40 : Cond.fieldLink RX1 40 "LampLine$Lamp" "width" "I" ∈ AL := ia_A1 _ (List.mem_of_getElem? (i := 0) rfl)
theorem aw_41 : Cond.fieldLink RX1 43 "LampLine$Lamp" "modes" "I" ∈ AL := ia_A1 _ (List.mem_of_getElem? (i := 1) rfl)
theorem aw_42 : Cond.fieldLink RX1 46 "LampLine$Lamp" "address" "I" ∈ AL := ia_A1 _ (List.mem_of_getElem? (i := 2) rfl)
theorem aw_43 : Cond.methodLink RX1 17 yX3_init ∈ AL := ia_A1 _ (List.mem_of_getElem? (i := 3) rfl)
theorem aw_44 : Cond.instanceMethod yX3_init ∈ AL := ia_A1 _ (List.mem_of_getElem? (i := 4) rfl)
theorem aw_45 : Cond.code yX3_init cX3_init 2 none ∈ AL := ia_A1 _ (List.mem_of_getElem? (i := 5) rfl)
theorem aw_46 : Cond.fieldLink RX1 49 "LampLine$Lamp" "litAt" "I" ∈ AL := ia_A1 _ (List.mem_of_getElem? (i := 6) rfl)
theorem aw_47 : Cond.fieldLink RX1 60 "LampLine$Lamp" "silent" "Z" ∈ AL := ia_A1 _ (List.mem_of_getElem? (i := 7) rfl)
theorem aw_48 : Cond.fieldLink RX1 68 "LampLine$Lamp" "shows" "Z" ∈ AL := ia_A1 _ (List.mem_of_getElem? (i := 8) rfl)
theorem aw_49 : Cond.fieldLink RX1 75 "LampLine$Lamp" "waiting" "I" ∈ AL := ia_A1 _ (List.mem_of_getElem? (i := 9) rfl)
theorem aw_50 : Cond.fieldLink RX1 81 "LampLine$Lamp" "orders" "I" ∈ AL := ia_A1 _ (List.mem_of_getElem? (i := 10) rfl)
theorem aw_51 : Cond.static yX6_makerOf ∈ AL := ia_A1 _ (List.mem_of_getElem? (i := 11) rfl)
theorem aw_52 : Cond.initialized RX6 ∈ AL := ia_A1 _ (List.mem_of_getElem? (i := 12) rfl)
theorem aw_53 : Cond.code yX6_makerOf cX6_makerOf 2 (some .int) ∈ AL := ia_A1 _ (List.mem_of_getElem? (i := 13) rfl)
theorem aw_54 : Cond.methodLink RX1 56 yX1_footprint ∈ AL := ia_A1 _ (List.mem_of_getElem? (i := 14) rfl)
theorem aw_55 : Cond.instanceMethod yX1_footprint ∈ AL := ia_A1 _ (List.mem_of_getElem? (i := 15) rfl)
theorem aw_56 : Cond.selects RX1 yX1_footprint yX1_footprint ∈ AL := ia_A1 _ (List.mem_of_getElem? (i := 16) rfl)
theorem aw_57 : Cond.initialized RX1 ∈ AL := ia_A1 _ (List.mem_of_getElem? (i := 17) rfl)
theorem aw_58 : Cond.code yX1_footprint cX1_footprint 1 (some .int) ∈ AL := ia_A1 _ (List.mem_of_getElem? (i := 18) rfl)
theorem aw_59 : Cond.static yX6_flag ∈ AL := ia_A1 _ (List.mem_of_getElem? (i := 19) rfl)
theorem aw_60 : Cond.code yX6_flag cX6_flag 1 (some .int) ∈ AL := ia_A1 _ (List.mem_of_getElem? (i := 20) rfl)
theorem aw_61 : Cond.methodLink RX1 71 yX1_isDark ∈ AL := ia_A1 _ (List.mem_of_getElem? (i := 21) rfl)
theorem aw_62 : Cond.instanceMethod yX1_isDark ∈ AL := ia_A1 _ (List.mem_of_getElem? (i := 22) rfl)
theorem aw_63 : Cond.selects RX1 yX1_isDark yX1_isDark ∈ AL := ia_A1 _ (List.mem_of_getElem? (i := 23) rfl)
theorem aw_64 : Cond.code yX1_isDark cX1_isDark 2 (some .boolean) ∈ AL := ia_A1 _ (List.mem_of_getElem? (i := 24) rfl)
theorem aw_65 : Cond.methodLink RX1 78 yX3_size ∈ AL := ia_A1 _ (List.mem_of_getElem? (i := 25) rfl)
theorem aw_66 : Cond.fieldLink RX1 88 "LampLine$Lamp" "onTheWay" "I" ∈ AL := ia_A1 _ (List.mem_of_getElem? (i := 26) rfl)
theorem aw_67 : Cond.methodLink RX1 84 yX3_copyFrom ∈ AL := ia_A1 _ (List.mem_of_getElem? (i := 27) rfl)
theorem aw_68 : Cond.instanceMethod yX3_copyFrom ∈ AL := ia_A1 _ (List.mem_of_getElem? (i := 28) rfl)
theorem aw_69 : Cond.selects RX3 yX3_copyFrom yX3_copyFrom ∈ AL := ia_A1 _ (List.mem_of_getElem? (i := 29) rfl)
theorem aw_70 : Cond.code yX3_copyFrom cX3_copyFrom 3 none ∈ AL := ia_A1 _ (List.mem_of_getElem? (i := 30) rfl)
theorem aw_71 : Cond.methodLink RX1 91 Lib.Math.min.name ∈ AL := ia_A1 _ (List.mem_of_getElem? (i := 31) rfl)
theorem aw_72 : Cond.static Lib.Math.min.name ∈ AL := ia_A1 _ (List.mem_of_getElem? (i := 32) rfl)
theorem aw_73 : Cond.initialized "java/lang/Math" ∈ AL := ia_A1 _ (List.mem_of_getElem? (i := 33) rfl)
theorem aw_74 : Cond.code Lib.Math.min.name Lib.Math.min.code 2 (some .int) ∈ AL := ia_A1 _ (List.mem_of_getElem? (i := 34) rfl)
theorem aw_75 : Cond.methodLink RX1 97 yX3_at ∈ AL := ia_A1 _ (List.mem_of_getElem? (i := 35) rfl)
theorem aw_76 : Cond.constantLong RX6 60 (4294967295) ∈ AL := ia_A1 _ (List.mem_of_getElem? (i := 36) rfl)
theorem aw_77 : Cond.constantLong RX1 105 (4294967295) ∈ AL := ia_A1 _ (List.mem_of_getElem? (i := 37) rfl)
theorem aw_78 : Cond.constant RX1 107 (65535) ∈ AL := ia_A1 _ (List.mem_of_getElem? (i := 38) rfl)
theorem aw_79 : Cond.static yX6_restOf ∈ AL := ia_A1 _ (List.mem_of_getElem? (i := 39) rfl)
theorem aw_80 : Cond.code yX6_restOf cX6_restOf 2 (some .long) ∈ AL := ia_A2 _ (List.mem_of_getElem? (i := 0) rfl)
theorem aw_81 : Cond.methodLink RX3 17 yX3_at ∈ AL := ia_A2 _ (List.mem_of_getElem? (i := 1) rfl)
theorem aw_82 : Cond.fieldLink RX2 20 "LampLine$Packet" "to" "J" ∈ AL := ia_A2 _ (List.mem_of_getElem? (i := 2) rfl)
theorem aw_83 : Cond.constantLong RX2 28 (4294967295) ∈ AL := ia_A2 _ (List.mem_of_getElem? (i := 3) rfl)
theorem aw_84 : Cond.fieldLink RX2 46 "LampLine$Packet" "from" "J" ∈ AL := ia_A2 _ (List.mem_of_getElem? (i := 4) rfl)
theorem aw_85 : Cond.fieldLink RX2 49 "LampLine$Packet" "count" "I" ∈ AL := ia_A2 _ (List.mem_of_getElem? (i := 5) rfl)
theorem aw_86 : Cond.fieldLink RX2 53 "LampLine$Packet" "kind" "I" ∈ AL := ia_A2 _ (List.mem_of_getElem? (i := 6) rfl)
theorem aw_87 : Cond.fieldLink RX2 59 "LampLine$Packet" "part" "I" ∈ AL := ia_A2 _ (List.mem_of_getElem? (i := 7) rfl)
theorem aw_88 : Cond.fieldLink RX2 62 "LampLine$Packet" "group" "I" ∈ AL := ia_A2 _ (List.mem_of_getElem? (i := 8) rfl)
theorem aw_89 : Cond.fieldLink RX2 65 "LampLine$Packet" "matter" "I" ∈ AL := ia_A2 _ (List.mem_of_getElem? (i := 9) rfl)
theorem aw_90 : Cond.fieldLink RX2 16 "LampLine$Packet" "data" "LLampLine$Row;" ∈ AL := ia_A2 _ (List.mem_of_getElem? (i := 10) rfl)
theorem aw_91 : Cond.methodLink RX2 68 yX3_cut ∈ AL := ia_A2 _ (List.mem_of_getElem? (i := 11) rfl)
theorem aw_92 : Cond.fieldLink RX2 56 "LampLine$Packet" "messages" "I" ∈ AL := ia_A2 _ (List.mem_of_getElem? (i := 12) rfl)
theorem aw_93 : Cond.methodLink RX2 34 yX3_size ∈ AL := ia_A2 _ (List.mem_of_getElem? (i := 13) rfl)
theorem aw_94 : Cond.methodLink RX2 71 yX3_put ∈ AL := ia_A2 _ (List.mem_of_getElem? (i := 14) rfl)
theorem aw_95 : Cond.methodLink RX2 74 yX3_putNumber ∈ AL := ia_A2 _ (List.mem_of_getElem? (i := 15) rfl)
theorem aw_96 : Cond.instanceMethod yX3_putNumber ∈ AL := ia_A2 _ (List.mem_of_getElem? (i := 16) rfl)
theorem aw_97 : Cond.selects RX3 yX3_putNumber yX3_putNumber ∈ AL := ia_A2 _ (List.mem_of_getElem? (i := 17) rfl)
theorem aw_98 : Cond.code yX3_putNumber cX3_putNumber 5 none ∈ AL := ia_A2 _ (List.mem_of_getElem? (i := 18) rfl)
theorem aw_99 : Cond.methodLink RX2 30 yX3_at ∈ AL := ia_A2 _ (List.mem_of_getElem? (i := 19) rfl)
theorem aw_100 : Cond.methodLink RX2 38 yX3_sum ∈ AL := ia_A2 _ (List.mem_of_getElem? (i := 20) rfl)
theorem aw_101 : Cond.methodLink RX1 131 yX3_number ∈ AL := ia_A2 _ (List.mem_of_getElem? (i := 21) rfl)
theorem aw_102 : Cond.instanceMethod yX3_number ∈ AL := ia_A2 _ (List.mem_of_getElem? (i := 22) rfl)
theorem aw_103 : Cond.selects RX3 yX3_number yX3_number ∈ AL := ia_A2 _ (List.mem_of_getElem? (i := 23) rfl)
theorem aw_104 : Cond.code yX3_number cX3_number 6 (some .long) ∈ AL := ia_A2 _ (List.mem_of_getElem? (i := 24) rfl)
theorem aw_105 : Cond.methodLink RX1 135 yX0_write ∈ AL := ia_A2 _ (List.mem_of_getElem? (i := 25) rfl)
theorem aw_106 : Cond.static yX0_write ∈ AL := ia_A2 _ (List.mem_of_getElem? (i := 26) rfl)
theorem aw_107 : Cond.initialized RX0 ∈ AL := ia_A2 _ (List.mem_of_getElem? (i := 27) rfl)
theorem aw_108 : Cond.code yX0_write cX0_write 5 none ∈ AL := ia_A2 _ (List.mem_of_getElem? (i := 28) rfl)
theorem aw_109 : Cond.methodLink RX1 117 yX2_isCall ∈ AL := ia_A2 _ (List.mem_of_getElem? (i := 29) rfl)
theorem aw_110 : Cond.instanceMethod yX2_isCall ∈ AL := ia_A2 _ (List.mem_of_getElem? (i := 30) rfl)
theorem aw_111 : Cond.selects RX2 yX2_isCall yX2_isCall ∈ AL := ia_A2 _ (List.mem_of_getElem? (i := 31) rfl)
theorem aw_112 : Cond.initialized RX2 ∈ AL := ia_A2 _ (List.mem_of_getElem? (i := 32) rfl)
theorem aw_113 : Cond.code yX2_isCall cX2_isCall 1 (some .boolean) ∈ AL := ia_A2 _ (List.mem_of_getElem? (i := 33) rfl)
theorem aw_114 : Cond.methodLink RX1 141 yX2_beginReply ∈ AL := ia_A2 _ (List.mem_of_getElem? (i := 34) rfl)
theorem aw_115 : Cond.instanceMethod yX2_beginReply ∈ AL := ia_A2 _ (List.mem_of_getElem? (i := 35) rfl)
theorem aw_116 : Cond.selects RX2 yX2_beginReply yX2_beginReply ∈ AL := ia_A2 _ (List.mem_of_getElem? (i := 36) rfl)
theorem aw_117 : Cond.code yX2_beginReply cX2_beginReply 4 none ∈ AL := ia_A2 _ (List.mem_of_getElem? (i := 37) rfl)
theorem aw_118 : Cond.methodLink RX1 145 yX3_putNumber ∈ AL := ia_A2 _ (List.mem_of_getElem? (i := 38) rfl)
theorem aw_119 : Cond.methodLink RX1 152 yX2_writeTo ∈ AL := ia_A2 _ (List.mem_of_getElem? (i := 39) rfl)
theorem aw_120 : Cond.instanceMethod yX2_writeTo ∈ AL := ia_A3 _ (List.mem_of_getElem? (i := 0) rfl)
theorem aw_121 : Cond.selects RX2 yX2_writeTo yX2_writeTo ∈ AL := ia_A3 _ (List.mem_of_getElem? (i := 1) rfl)
theorem aw_122 : Cond.code yX2_writeTo cX2_writeTo 4 none ∈ AL := ia_A3 _ (List.mem_of_getElem? (i := 2) rfl)
theorem aw_123 : Cond.fieldLink RX1 180 "LampLine$Lamp" "MATTERS" "[I" ∈ AL := ia_A3 _ (List.mem_of_getElem? (i := 3) rfl)
theorem aw_124 : Cond.methodLink RX1 177 yX1_isKnown ∈ AL := ia_A3 _ (List.mem_of_getElem? (i := 4) rfl)
theorem aw_125 : Cond.static yX1_isKnown ∈ AL := ia_A3 _ (List.mem_of_getElem? (i := 5) rfl)
theorem aw_126 : Cond.code yX1_isKnown cX1_isKnown 2 (some .boolean) ∈ AL := ia_A3 _ (List.mem_of_getElem? (i := 6) rfl)
theorem aw_127 : Cond.static yX6_fits ∈ AL := ia_A3 _ (List.mem_of_getElem? (i := 7) rfl)
theorem aw_128 : Cond.code yX6_fits cX6_fits 2 (some .boolean) ∈ AL := ia_A3 _ (List.mem_of_getElem? (i := 8) rfl)
theorem aw_129 : Cond.constantLong RX1 190 (3) ∈ AL := ia_A3 _ (List.mem_of_getElem? (i := 9) rfl)
theorem aw_130 : Cond.methodLink RX1 192 yX3_put ∈ AL := ia_A3 _ (List.mem_of_getElem? (i := 10) rfl)
theorem aw_131 : Cond.methodLink RX1 158 yX1_formRefusal ∈ AL := ia_A3 _ (List.mem_of_getElem? (i := 11) rfl)
theorem aw_132 : Cond.static yX1_formRefusal ∈ AL := ia_A3 _ (List.mem_of_getElem? (i := 12) rfl)
theorem aw_133 : Cond.code yX1_formRefusal cX1_formRefusal 4 (some .int) ∈ AL := ia_A3 _ (List.mem_of_getElem? (i := 13) rfl)
theorem aw_134 : Cond.methodLink RX1 162 yX1_valueRefusal ∈ AL := ia_A3 _ (List.mem_of_getElem? (i := 14) rfl)
theorem aw_135 : Cond.instanceMethod yX1_valueRefusal ∈ AL := ia_A3 _ (List.mem_of_getElem? (i := 15) rfl)
theorem aw_136 : Cond.selects RX1 yX1_valueRefusal yX1_valueRefusal ∈ AL := ia_A3 _ (List.mem_of_getElem? (i := 16) rfl)
theorem aw_137 : Cond.code yX1_valueRefusal cX1_valueRefusal 6 (some .int) ∈ AL := ia_A3 _ (List.mem_of_getElem? (i := 17) rfl)
theorem aw_138 : Cond.methodLink RX1 166 yX2_refuse ∈ AL := ia_A3 _ (List.mem_of_getElem? (i := 18) rfl)
theorem aw_139 : Cond.instanceMethod yX2_refuse ∈ AL := ia_A3 _ (List.mem_of_getElem? (i := 19) rfl)
theorem aw_140 : Cond.selects RX2 yX2_refuse yX2_refuse ∈ AL := ia_A3 _ (List.mem_of_getElem? (i := 20) rfl)
theorem aw_141 : Cond.code yX2_refuse cX2_refuse 2 none ∈ AL := ia_A3 _ (List.mem_of_getElem? (i := 21) rfl)
theorem aw_142 : Cond.methodLink RX1 169 yX1_obey ∈ AL := ia_A3 _ (List.mem_of_getElem? (i := 22) rfl)
theorem aw_143 : Cond.instanceMethod yX1_obey ∈ AL := ia_A3 _ (List.mem_of_getElem? (i := 23) rfl)
theorem aw_144 : Cond.selects RX1 yX1_obey yX1_obey ∈ AL := ia_A3 _ (List.mem_of_getElem? (i := 24) rfl)
theorem aw_145 : Cond.code yX1_obey cX1_obey 7 none ∈ AL := ia_A3 _ (List.mem_of_getElem? (i := 25) rfl)
theorem aw_146 : Cond.methodLink RX1 173 yX1_tell ∈ AL := ia_A3 _ (List.mem_of_getElem? (i := 26) rfl)
theorem aw_147 : Cond.instanceMethod yX1_tell ∈ AL := ia_A3 _ (List.mem_of_getElem? (i := 27) rfl)
theorem aw_148 : Cond.selects RX1 yX1_tell yX1_tell ∈ AL := ia_A3 _ (List.mem_of_getElem? (i := 28) rfl)
theorem aw_149 : Cond.code yX1_tell cX1_tell 6 none ∈ AL := ia_A3 _ (List.mem_of_getElem? (i := 29) rfl)
theorem aw_150 : Cond.methodLink RX1 113 yX1_speaksToSearch ∈ AL := ia_A3 _ (List.mem_of_getElem? (i := 30) rfl)
theorem aw_151 : Cond.instanceMethod yX1_speaksToSearch ∈ AL := ia_A3 _ (List.mem_of_getElem? (i := 31) rfl)
theorem aw_152 : Cond.selects RX1 yX1_speaksToSearch yX1_speaksToSearch ∈ AL := ia_A3 _ (List.mem_of_getElem? (i := 32) rfl)
theorem aw_153 : Cond.code yX1_speaksToSearch cX1_speaksToSearch 5 (some .boolean) ∈ AL := ia_A3 _ (List.mem_of_getElem? (i := 33) rfl)
theorem aw_154 : Cond.methodLink RX1 121 yX1_speaksToOrder ∈ AL := ia_A3 _ (List.mem_of_getElem? (i := 34) rfl)
theorem aw_155 : Cond.instanceMethod yX1_speaksToOrder ∈ AL := ia_A3 _ (List.mem_of_getElem? (i := 35) rfl)
theorem aw_156 : Cond.selects RX1 yX1_speaksToOrder yX1_speaksToOrder ∈ AL := ia_A3 _ (List.mem_of_getElem? (i := 36) rfl)
theorem aw_157 : Cond.code yX1_speaksToOrder cX1_speaksToOrder 8 (some .boolean) ∈ AL := ia_A3 _ (List.mem_of_getElem? (i := 37) rfl)
theorem aw_158 : Cond.methodLink RX2 5 objectInit ∈ AL := ia_A3 _ (List.mem_of_getElem? (i := 38) rfl)
theorem aw_159 : Cond.classLink RX2 11 RX3 ∈ AL := ia_A3 _ (List.mem_of_getElem? (i := 39) rfl)
theorem aw_160 : Cond.methodLink RX2 13 yX3_init ∈ AL := ia_A4 _ (List.mem_of_getElem? (i := 0) rfl)
theorem aw_161 : Cond.methodLink RX2 42 yX3_number ∈ AL := ia_A4 _ (List.mem_of_getElem? (i := 1) rfl)
theorem aw_162 : Cond.methodLink RX4 3 objectInit ∈ AL := ia_A4 _ (List.mem_of_getElem? (i := 2) rfl)
theorem aw_163 : Cond.arrayClass .long ∈ AL := ia_A4 _ (List.mem_of_getElem? (i := 3) rfl)
theorem aw_164 : Cond.fieldLink RX4 11 "LampLine$Search" "lows" "[J" ∈ AL := ia_A4 _ (List.mem_of_getElem? (i := 4) rfl)
theorem aw_165 : Cond.fieldLink RX4 15 "LampLine$Search" "highs" "[J" ∈ AL := ia_A4 _ (List.mem_of_getElem? (i := 5) rfl)
theorem aw_166 : Cond.fieldLink RX4 18 "LampLine$Search" "foundIds" "[J" ∈ AL := ia_A4 _ (List.mem_of_getElem? (i := 6) rfl)
theorem aw_167 : Cond.fieldLink RX4 25 "LampLine$Search" "depth" "I" ∈ AL := ia_A4 _ (List.mem_of_getElem? (i := 7) rfl)
theorem aw_168 : Cond.fieldLink RX4 21 "LampLine$Search" "begun" "Z" ∈ AL := ia_A4 _ (List.mem_of_getElem? (i := 8) rfl)
theorem aw_169 : Cond.fieldLink RX4 29 "LampLine$Search" "foundCount" "I" ∈ AL := ia_A4 _ (List.mem_of_getElem? (i := 9) rfl)
theorem aw_170 : Cond.fieldLink RX4 32 "LampLine$Search" "steps" "I" ∈ AL := ia_A4 _ (List.mem_of_getElem? (i := 10) rfl)
theorem aw_171 : Cond.constantLong RX4 35 (281474976710654) ∈ AL := ia_A4 _ (List.mem_of_getElem? (i := 11) rfl)
theorem aw_172 : Cond.methodLink RX4 37 yX4_pile ∈ AL := ia_A4 _ (List.mem_of_getElem? (i := 12) rfl)
theorem aw_173 : Cond.instanceMethod yX4_pile ∈ AL := ia_A4 _ (List.mem_of_getElem? (i := 13) rfl)
theorem aw_174 : Cond.selects RX4 yX4_pile yX4_pile ∈ AL := ia_A4 _ (List.mem_of_getElem? (i := 14) rfl)
theorem aw_175 : Cond.initialized RX4 ∈ AL := ia_A4 _ (List.mem_of_getElem? (i := 15) rfl)
theorem aw_176 : Cond.code yX4_pile cX4_pile 5 none ∈ AL := ia_A4 _ (List.mem_of_getElem? (i := 16) rfl)
theorem aw_177 : Cond.constantLong RX4 41 (-1) ∈ AL := ia_A4 _ (List.mem_of_getElem? (i := 17) rfl)
theorem aw_178 : Cond.methodLink RX4 43 yX4_hasFound ∈ AL := ia_A4 _ (List.mem_of_getElem? (i := 18) rfl)
theorem aw_179 : Cond.instanceMethod yX4_hasFound ∈ AL := ia_A4 _ (List.mem_of_getElem? (i := 19) rfl)
theorem aw_180 : Cond.selects RX4 yX4_hasFound yX4_hasFound ∈ AL := ia_A4 _ (List.mem_of_getElem? (i := 20) rfl)
theorem aw_181 : Cond.code yX4_hasFound cX4_hasFound 4 (some .boolean) ∈ AL := ia_A4 _ (List.mem_of_getElem? (i := 21) rfl)
theorem aw_182 : Cond.methodLink RX5 1 objectInit ∈ AL := ia_A4 _ (List.mem_of_getElem? (i := 22) rfl)
theorem aw_183 : Cond.fieldLink RX5 9 "LampLine$Spoils" "places" "[I" ∈ AL := ia_A4 _ (List.mem_of_getElem? (i := 23) rfl)
theorem aw_184 : Cond.fieldLink RX5 13 "LampLine$Spoils" "masks" "[I" ∈ AL := ia_A4 _ (List.mem_of_getElem? (i := 24) rfl)
theorem aw_185 : Cond.fieldLink RX5 16 "LampLine$Spoils" "size" "I" ∈ AL := ia_A4 _ (List.mem_of_getElem? (i := 25) rfl)
theorem aw_186 : Cond.methodLink RX5 20 yX5_dropFirst ∈ AL := ia_A4 _ (List.mem_of_getElem? (i := 26) rfl)
theorem aw_187 : Cond.instanceMethod yX5_dropFirst ∈ AL := ia_A4 _ (List.mem_of_getElem? (i := 27) rfl)
theorem aw_188 : Cond.selects RX5 yX5_dropFirst yX5_dropFirst ∈ AL := ia_A4 _ (List.mem_of_getElem? (i := 28) rfl)
theorem aw_189 : Cond.initialized RX5 ∈ AL := ia_A4 _ (List.mem_of_getElem? (i := 29) rfl)
theorem aw_190 : Cond.code yX5_dropFirst cX5_dropFirst 2 none ∈ AL := ia_A4 _ (List.mem_of_getElem? (i := 30) rfl)
theorem aw_191 : Cond.methodLink RX5 23 yX3_flip ∈ AL := ia_A4 _ (List.mem_of_getElem? (i := 31) rfl)
theorem aw_192 : Cond.instanceMethod yX3_flip ∈ AL := ia_A4 _ (List.mem_of_getElem? (i := 32) rfl)
theorem aw_193 : Cond.selects RX3 yX3_flip yX3_flip ∈ AL := ia_A4 _ (List.mem_of_getElem? (i := 33) rfl)
theorem aw_194 : Cond.code yX3_flip cX3_flip 3 none ∈ AL := ia_A4 _ (List.mem_of_getElem? (i := 34) rfl)
theorem aw_195 : Cond.methodLink RX6 1 objectInit ∈ AL := ia_A4 _ (List.mem_of_getElem? (i := 35) rfl)
theorem aw_196 : Cond.classLink RX6 7 RX3 ∈ AL := ia_A4 _ (List.mem_of_getElem? (i := 36) rfl)
theorem aw_197 : Cond.fieldLink RX6 14 "LampLine" "tape" "LLampLine$Row;" ∈ AL := ia_A4 _ (List.mem_of_getElem? (i := 37) rfl)
theorem aw_198 : Cond.fieldLink RX6 18 "LampLine" "frame" "LLampLine$Row;" ∈ AL := ia_A4 _ (List.mem_of_getElem? (i := 38) rfl)
theorem aw_199 : Cond.fieldLink RX6 23 "LampLine" "voice" "LLampLine$Row;" ∈ AL := ia_A4 _ (List.mem_of_getElem? (i := 39) rfl)
theorem aw_200 : Cond.fieldLink RX6 26 "LampLine" "heardAnswer" "LLampLine$Row;" ∈ AL := ia_A5 _ (List.mem_of_getElem? (i := 0) rfl)
theorem aw_201 : Cond.classLink RX6 21 RX2 ∈ AL := ia_A5 _ (List.mem_of_getElem? (i := 1) rfl)
theorem aw_202 : Cond.instantiable RX2 9 ∈ AL := ia_A5 _ (List.mem_of_getElem? (i := 2) rfl)
theorem aw_203 : Cond.fieldLink RX6 30 "LampLine" "question" "LLampLine$Packet;" ∈ AL := ia_A5 _ (List.mem_of_getElem? (i := 3) rfl)
theorem aw_204 : Cond.fieldLink RX6 34 "LampLine" "heard" "LLampLine$Packet;" ∈ AL := ia_A5 _ (List.mem_of_getElem? (i := 4) rfl)
theorem aw_205 : Cond.fieldLink RX6 37 "LampLine" "reply" "LLampLine$Packet;" ∈ AL := ia_A5 _ (List.mem_of_getElem? (i := 5) rfl)
theorem aw_206 : Cond.classLink RX6 40 RX5 ∈ AL := ia_A5 _ (List.mem_of_getElem? (i := 6) rfl)
theorem aw_207 : Cond.instantiable RX5 3 ∈ AL := ia_A5 _ (List.mem_of_getElem? (i := 7) rfl)
theorem aw_208 : Cond.fieldLink RX6 43 "LampLine" "spoils" "LLampLine$Spoils;" ∈ AL := ia_A5 _ (List.mem_of_getElem? (i := 8) rfl)
theorem aw_209 : Cond.classLink RX6 47 RX4 ∈ AL := ia_A5 _ (List.mem_of_getElem? (i := 9) rfl)
theorem aw_210 : Cond.instantiable RX4 7 ∈ AL := ia_A5 _ (List.mem_of_getElem? (i := 10) rfl)
theorem aw_211 : Cond.fieldLink RX6 50 "LampLine" "hunt" "LLampLine$Search;" ∈ AL := ia_A5 _ (List.mem_of_getElem? (i := 11) rfl)
theorem aw_212 : Cond.classLink RX6 54 RX1 ∈ AL := ia_A5 _ (List.mem_of_getElem? (i := 12) rfl)
theorem aw_213 : Cond.fieldLink RX6 56 "LampLine" "lamps" "[LLampLine$Lamp;" ∈ AL := ia_A5 _ (List.mem_of_getElem? (i := 13) rfl)
theorem aw_214 : Cond.methodLink RX6 11 yX3_init ∈ AL := ia_A5 _ (List.mem_of_getElem? (i := 14) rfl)
theorem aw_215 : Cond.instanceMethod yX2_init ∈ AL := ia_A5 _ (List.mem_of_getElem? (i := 15) rfl)
theorem aw_216 : Cond.code yX2_init cX2_init 1 none ∈ AL := ia_A5 _ (List.mem_of_getElem? (i := 16) rfl)
theorem aw_217 : Cond.instanceMethod yX5_init ∈ AL := ia_A5 _ (List.mem_of_getElem? (i := 17) rfl)
theorem aw_218 : Cond.code yX5_init cX5_init 1 none ∈ AL := ia_A5 _ (List.mem_of_getElem? (i := 18) rfl)
theorem aw_219 : Cond.instanceMethod yX4_init ∈ AL := ia_A5 _ (List.mem_of_getElem? (i := 19) rfl)
theorem aw_220 : Cond.code yX4_init cX4_init 1 none ∈ AL := ia_A5 _ (List.mem_of_getElem? (i := 20) rfl)
theorem aw_221 : Cond.fieldLink RX6 87 "LampLine" "lampCount" "I" ∈ AL := ia_A5 _ (List.mem_of_getElem? (i := 21) rfl)
theorem aw_222 : Cond.classLink RX6 62 "java/lang/IllegalArgumentException" ∈ AL := ia_A5 _ (List.mem_of_getElem? (i := 22) rfl)
theorem aw_223 : Cond.initialized "java/lang/IllegalArgumentException" ∈ AL := ia_A5 _ (List.mem_of_getElem? (i := 23) rfl)
theorem aw_224 : Cond.classLink RX6 91 "java/lang/IllegalStateException" ∈ AL := ia_A5 _ (List.mem_of_getElem? (i := 24) rfl)
theorem aw_225 : Cond.initialized "java/lang/IllegalStateException" ∈ AL := ia_A5 _ (List.mem_of_getElem? (i := 25) rfl)
theorem aw_226 : Cond.instantiable RX1 15 ∈ AL := ia_A5 _ (List.mem_of_getElem? (i := 26) rfl)
theorem aw_227 : Cond.methodLink RX6 71 yX6_fits ∈ AL := ia_A5 _ (List.mem_of_getElem? (i := 27) rfl)
theorem aw_228 : Cond.methodLink RX6 77 yX6_joinedId ∈ AL := ia_A5 _ (List.mem_of_getElem? (i := 28) rfl)
theorem aw_229 : Cond.static yX6_joinedId ∈ AL := ia_A5 _ (List.mem_of_getElem? (i := 29) rfl)
theorem aw_230 : Cond.code yX6_joinedId cX6_joinedId 3 (some .long) ∈ AL := ia_A5 _ (List.mem_of_getElem? (i := 30) rfl)
theorem aw_231 : Cond.methodLink RX6 81 yX6_isThere ∈ AL := ia_A5 _ (List.mem_of_getElem? (i := 31) rfl)
theorem aw_232 : Cond.instanceMethod yX6_isThere ∈ AL := ia_A5 _ (List.mem_of_getElem? (i := 32) rfl)
theorem aw_233 : Cond.selects RX6 yX6_isThere yX6_isThere ∈ AL := ia_A5 _ (List.mem_of_getElem? (i := 33) rfl)
theorem aw_234 : Cond.code yX6_isThere cX6_isThere 4 (some .boolean) ∈ AL := ia_A5 _ (List.mem_of_getElem? (i := 34) rfl)
theorem aw_235 : Cond.methodLink RX6 96 yX1_init ∈ AL := ia_A5 _ (List.mem_of_getElem? (i := 35) rfl)
theorem aw_236 : Cond.instanceMethod yX1_init ∈ AL := ia_A5 _ (List.mem_of_getElem? (i := 36) rfl)
theorem aw_237 : Cond.code yX1_init cX1_init 7 none ∈ AL := ia_A5 _ (List.mem_of_getElem? (i := 37) rfl)
theorem aw_238 : Cond.methodLink RX6 99 yX3_size ∈ AL := ia_A5 _ (List.mem_of_getElem? (i := 38) rfl)
theorem aw_239 : Cond.methodLink RX6 105 yX3_putNumber ∈ AL := ia_A5 _ (List.mem_of_getElem? (i := 39) rfl)
theorem aw_240 : Cond.methodLink RX6 111 yX3_cut ∈ AL := ia_A6 _ (List.mem_of_getElem? (i := 0) rfl)
theorem aw_241 : Cond.fieldLink RX6 160 "LampLine" "frameCount" "I" ∈ AL := ia_A6 _ (List.mem_of_getElem? (i := 1) rfl)
theorem aw_242 : Cond.methodLink RX6 126 yX3_at ∈ AL := ia_A6 _ (List.mem_of_getElem? (i := 2) rfl)
theorem aw_243 : Cond.methodLink RX6 246 yX2_readFrom ∈ AL := ia_A6 _ (List.mem_of_getElem? (i := 3) rfl)
theorem aw_244 : Cond.instanceMethod yX2_readFrom ∈ AL := ia_A6 _ (List.mem_of_getElem? (i := 4) rfl)
theorem aw_245 : Cond.selects RX2 yX2_readFrom yX2_readFrom ∈ AL := ia_A6 _ (List.mem_of_getElem? (i := 5) rfl)
theorem aw_246 : Cond.code yX2_readFrom cX2_readFrom 4 (some .boolean) ∈ AL := ia_A6 _ (List.mem_of_getElem? (i := 6) rfl)
theorem aw_247 : Cond.methodLink RX6 250 yX1_ripen ∈ AL := ia_A6 _ (List.mem_of_getElem? (i := 7) rfl)
theorem aw_248 : Cond.instanceMethod yX1_ripen ∈ AL := ia_A6 _ (List.mem_of_getElem? (i := 8) rfl)
theorem aw_249 : Cond.selects RX1 yX1_ripen yX1_ripen ∈ AL := ia_A6 _ (List.mem_of_getElem? (i := 9) rfl)
theorem aw_250 : Cond.code yX1_ripen cX1_ripen 3 none ∈ AL := ia_A6 _ (List.mem_of_getElem? (i := 10) rfl)
theorem aw_251 : Cond.methodLink RX6 253 yX1_shine ∈ AL := ia_A6 _ (List.mem_of_getElem? (i := 11) rfl)
theorem aw_252 : Cond.instanceMethod yX1_shine ∈ AL := ia_A6 _ (List.mem_of_getElem? (i := 12) rfl)
theorem aw_253 : Cond.selects RX1 yX1_shine yX1_shine ∈ AL := ia_A6 _ (List.mem_of_getElem? (i := 13) rfl)
theorem aw_254 : Cond.code yX1_shine cX1_shine 5 none ∈ AL := ia_A6 _ (List.mem_of_getElem? (i := 14) rfl)
theorem aw_255 : Cond.methodLink RX6 260 yX1_isMeantBy ∈ AL := ia_A6 _ (List.mem_of_getElem? (i := 15) rfl)
theorem aw_256 : Cond.instanceMethod yX1_isMeantBy ∈ AL := ia_A6 _ (List.mem_of_getElem? (i := 16) rfl)
theorem aw_257 : Cond.selects RX1 yX1_isMeantBy yX1_isMeantBy ∈ AL := ia_A6 _ (List.mem_of_getElem? (i := 17) rfl)
theorem aw_258 : Cond.code yX1_isMeantBy cX1_isMeantBy 3 (some .boolean) ∈ AL := ia_A6 _ (List.mem_of_getElem? (i := 18) rfl)
theorem aw_259 : Cond.methodLink RX6 263 yX1_speaksTo ∈ AL := ia_A6 _ (List.mem_of_getElem? (i := 19) rfl)
theorem aw_260 : Cond.instanceMethod yX1_speaksTo ∈ AL := ia_A6 _ (List.mem_of_getElem? (i := 20) rfl)
theorem aw_261 : Cond.selects RX1 yX1_speaksTo yX1_speaksTo ∈ AL := ia_A6 _ (List.mem_of_getElem? (i := 21) rfl)
theorem aw_262 : Cond.code yX1_speaksTo cX1_speaksTo 5 (some .boolean) ∈ AL := ia_A6 _ (List.mem_of_getElem? (i := 22) rfl)
theorem aw_263 : Cond.methodLink RX6 267 yX3_join ∈ AL := ia_A6 _ (List.mem_of_getElem? (i := 23) rfl)
theorem aw_264 : Cond.instanceMethod yX3_join ∈ AL := ia_A6 _ (List.mem_of_getElem? (i := 24) rfl)
theorem aw_265 : Cond.selects RX3 yX3_join yX3_join ∈ AL := ia_A6 _ (List.mem_of_getElem? (i := 25) rfl)
theorem aw_266 : Cond.code yX3_join cX3_join 3 none ∈ AL := ia_A6 _ (List.mem_of_getElem? (i := 26) rfl)
theorem aw_267 : Cond.methodLink RX6 270 yX5_applyTo ∈ AL := ia_A6 _ (List.mem_of_getElem? (i := 27) rfl)
theorem aw_268 : Cond.instanceMethod yX5_applyTo ∈ AL := ia_A6 _ (List.mem_of_getElem? (i := 28) rfl)
theorem aw_269 : Cond.selects RX5 yX5_applyTo yX5_applyTo ∈ AL := ia_A6 _ (List.mem_of_getElem? (i := 29) rfl)
theorem aw_270 : Cond.code yX5_applyTo cX5_applyTo 3 none ∈ AL := ia_A6 _ (List.mem_of_getElem? (i := 30) rfl)
theorem aw_271 : Cond.methodLink RX6 114 yX3_copyFrom ∈ AL := ia_A6 _ (List.mem_of_getElem? (i := 31) rfl)
theorem aw_272 : Cond.methodLink RX6 118 yX6_runFrame ∈ AL := ia_A6 _ (List.mem_of_getElem? (i := 32) rfl)
theorem aw_273 : Cond.instanceMethod yX6_runFrame ∈ AL := ia_A6 _ (List.mem_of_getElem? (i := 33) rfl)
theorem aw_274 : Cond.selects RX6 yX6_runFrame yX6_runFrame ∈ AL := ia_A6 _ (List.mem_of_getElem? (i := 34) rfl)
theorem aw_275 : Cond.code yX6_runFrame cX6_runFrame 5 none ∈ AL := ia_A6 _ (List.mem_of_getElem? (i := 35) rfl)
theorem aw_276 : Cond.classLink RX6 121 "java/lang/IndexOutOfBoundsException" ∈ AL := ia_A6 _ (List.mem_of_getElem? (i := 36) rfl)
theorem aw_277 : Cond.initialized "java/lang/IndexOutOfBoundsException" ∈ AL := ia_A6 _ (List.mem_of_getElem? (i := 37) rfl)
theorem aw_278 : Cond.fieldLink RX6 273 "LampLine" "questionCount" "I" ∈ AL := ia_A6 _ (List.mem_of_getElem? (i := 38) rfl)
theorem aw_279 : Cond.constantLong RX6 276 (140728898420737) ∈ AL := ia_A6 _ (List.mem_of_getElem? (i := 39) rfl)
theorem aw_280 : Cond.constant RX6 130 (65535) ∈ AL := ia_A7 _ (List.mem_of_getElem? (i := 0) rfl)
theorem aw_281 : Cond.methodLink RX6 135 yX6_beginQuestion ∈ AL := ia_A7 _ (List.mem_of_getElem? (i := 1) rfl)
theorem aw_282 : Cond.instanceMethod yX6_beginQuestion ∈ AL := ia_A7 _ (List.mem_of_getElem? (i := 2) rfl)
theorem aw_283 : Cond.selects RX6 yX6_beginQuestion yX6_beginQuestion ∈ AL := ia_A7 _ (List.mem_of_getElem? (i := 3) rfl)
theorem aw_284 : Cond.code yX6_beginQuestion cX6_beginQuestion 5 none ∈ AL := ia_A7 _ (List.mem_of_getElem? (i := 4) rfl)
theorem aw_285 : Cond.methodLink RX6 145 yX2_writeTo ∈ AL := ia_A7 _ (List.mem_of_getElem? (i := 5) rfl)
theorem aw_286 : Cond.methodLink RX6 148 yX6_isReplyFrom ∈ AL := ia_A7 _ (List.mem_of_getElem? (i := 6) rfl)
theorem aw_287 : Cond.instanceMethod yX6_isReplyFrom ∈ AL := ia_A7 _ (List.mem_of_getElem? (i := 7) rfl)
theorem aw_288 : Cond.selects RX6 yX6_isReplyFrom yX6_isReplyFrom ∈ AL := ia_A7 _ (List.mem_of_getElem? (i := 8) rfl)
theorem aw_289 : Cond.code yX6_isReplyFrom cX6_isReplyFrom 3 (some .boolean) ∈ AL := ia_A7 _ (List.mem_of_getElem? (i := 9) rfl)
theorem aw_290 : Cond.methodLink RX6 156 yX5_add ∈ AL := ia_A7 _ (List.mem_of_getElem? (i := 10) rfl)
theorem aw_291 : Cond.instanceMethod yX5_add ∈ AL := ia_A7 _ (List.mem_of_getElem? (i := 11) rfl)
theorem aw_292 : Cond.selects RX5 yX5_add yX5_add ∈ AL := ia_A7 _ (List.mem_of_getElem? (i := 12) rfl)
theorem aw_293 : Cond.code yX5_add cX5_add 3 none ∈ AL := ia_A7 _ (List.mem_of_getElem? (i := 13) rfl)
theorem aw_294 : Cond.methodLink RX6 163 yX6_lampAt ∈ AL := ia_A7 _ (List.mem_of_getElem? (i := 14) rfl)
theorem aw_295 : Cond.instanceMethod yX6_lampAt ∈ AL := ia_A7 _ (List.mem_of_getElem? (i := 15) rfl)
theorem aw_296 : Cond.selects RX6 yX6_lampAt yX6_lampAt ∈ AL := ia_A7 _ (List.mem_of_getElem? (i := 16) rfl)
theorem aw_297 : Cond.code yX6_lampAt cX6_lampAt 2 (some (.object "LampLine$Lamp")) ∈ AL := ia_A7 _ (List.mem_of_getElem? (i := 17) rfl)
theorem aw_298 : Cond.methodLink RX6 169 yX1_fact ∈ AL := ia_A7 _ (List.mem_of_getElem? (i := 18) rfl)
theorem aw_299 : Cond.instanceMethod yX1_fact ∈ AL := ia_A7 _ (List.mem_of_getElem? (i := 19) rfl)
theorem aw_300 : Cond.selects RX1 yX1_fact yX1_fact ∈ AL := ia_A7 _ (List.mem_of_getElem? (i := 20) rfl)
theorem aw_301 : Cond.code yX1_fact cX1_fact 3 (some .int) ∈ AL := ia_A7 _ (List.mem_of_getElem? (i := 21) rfl)
theorem aw_302 : Cond.methodLink RX6 177 yX6_restOf ∈ AL := ia_A7 _ (List.mem_of_getElem? (i := 22) rfl)
theorem aw_303 : Cond.methodLink RX6 181 yX1_footprint ∈ AL := ia_A7 _ (List.mem_of_getElem? (i := 23) rfl)
theorem aw_304 : Cond.methodLink RX6 186 yX1_levelAt ∈ AL := ia_A7 _ (List.mem_of_getElem? (i := 24) rfl)
theorem aw_305 : Cond.instanceMethod yX1_levelAt ∈ AL := ia_A7 _ (List.mem_of_getElem? (i := 25) rfl)
theorem aw_306 : Cond.selects RX1 yX1_levelAt yX1_levelAt ∈ AL := ia_A7 _ (List.mem_of_getElem? (i := 26) rfl)
theorem aw_307 : Cond.code yX1_levelAt cX1_levelAt 2 (some .int) ∈ AL := ia_A7 _ (List.mem_of_getElem? (i := 27) rfl)
theorem aw_308 : Cond.methodLink RX6 198 yX6_flag ∈ AL := ia_A7 _ (List.mem_of_getElem? (i := 28) rfl)
theorem aw_309 : Cond.constantLong RX6 205 (281474976710655) ∈ AL := ia_A7 _ (List.mem_of_getElem? (i := 29) rfl)
theorem aw_310 : Cond.methodLink RX6 202 yX4_begin ∈ AL := ia_A7 _ (List.mem_of_getElem? (i := 30) rfl)
theorem aw_311 : Cond.instanceMethod yX4_begin ∈ AL := ia_A7 _ (List.mem_of_getElem? (i := 31) rfl)
theorem aw_312 : Cond.selects RX4 yX4_begin yX4_begin ∈ AL := ia_A7 _ (List.mem_of_getElem? (i := 32) rfl)
theorem aw_313 : Cond.code yX4_begin cX4_begin 1 none ∈ AL := ia_A7 _ (List.mem_of_getElem? (i := 33) rfl)
theorem aw_314 : Cond.methodLink RX6 207 yX6_writeSearch ∈ AL := ia_A7 _ (List.mem_of_getElem? (i := 34) rfl)
theorem aw_315 : Cond.instanceMethod yX6_writeSearch ∈ AL := ia_A7 _ (List.mem_of_getElem? (i := 35) rfl)
theorem aw_316 : Cond.selects RX6 yX6_writeSearch yX6_writeSearch ∈ AL := ia_A7 _ (List.mem_of_getElem? (i := 36) rfl)
theorem aw_317 : Cond.code yX6_writeSearch cX6_writeSearch 4 none ∈ AL := ia_A7 _ (List.mem_of_getElem? (i := 37) rfl)
theorem aw_318 : Cond.methodLink RX6 316 yX4_keepFound ∈ AL := ia_A7 _ (List.mem_of_getElem? (i := 38) rfl)
theorem aw_319 : Cond.instanceMethod yX4_keepFound ∈ AL := ia_A7 _ (List.mem_of_getElem? (i := 39) rfl)
theorem aw_320 : Cond.selects RX4 yX4_keepFound yX4_keepFound ∈ AL := ia_A8 _ (List.mem_of_getElem? (i := 0) rfl)
theorem aw_321 : Cond.code yX4_keepFound cX4_keepFound 3 none ∈ AL := ia_A8 _ (List.mem_of_getElem? (i := 1) rfl)
theorem aw_322 : Cond.methodLink RX6 237 yX4_latestLow ∈ AL := ia_A8 _ (List.mem_of_getElem? (i := 2) rfl)
theorem aw_323 : Cond.instanceMethod yX4_latestLow ∈ AL := ia_A8 _ (List.mem_of_getElem? (i := 3) rfl)
theorem aw_324 : Cond.selects RX4 yX4_latestLow yX4_latestLow ∈ AL := ia_A8 _ (List.mem_of_getElem? (i := 4) rfl)
theorem aw_325 : Cond.code yX4_latestLow cX4_latestLow 1 (some .long) ∈ AL := ia_A8 _ (List.mem_of_getElem? (i := 5) rfl)
theorem aw_326 : Cond.methodLink RX6 241 yX4_latestHigh ∈ AL := ia_A8 _ (List.mem_of_getElem? (i := 6) rfl)
theorem aw_327 : Cond.instanceMethod yX4_latestHigh ∈ AL := ia_A8 _ (List.mem_of_getElem? (i := 7) rfl)
theorem aw_328 : Cond.selects RX4 yX4_latestHigh yX4_latestHigh ∈ AL := ia_A8 _ (List.mem_of_getElem? (i := 8) rfl)
theorem aw_329 : Cond.code yX4_latestHigh cX4_latestHigh 1 (some .long) ∈ AL := ia_A8 _ (List.mem_of_getElem? (i := 9) rfl)
theorem aw_330 : Cond.methodLink RX6 293 yX4_takeLatest ∈ AL := ia_A8 _ (List.mem_of_getElem? (i := 10) rfl)
theorem aw_331 : Cond.instanceMethod yX4_takeLatest ∈ AL := ia_A8 _ (List.mem_of_getElem? (i := 11) rfl)
theorem aw_332 : Cond.selects RX4 yX4_takeLatest yX4_takeLatest ∈ AL := ia_A8 _ (List.mem_of_getElem? (i := 12) rfl)
theorem aw_333 : Cond.code yX4_takeLatest cX4_takeLatest 1 none ∈ AL := ia_A8 _ (List.mem_of_getElem? (i := 13) rfl)
theorem aw_334 : Cond.methodLink RX6 296 yX6_tryId ∈ AL := ia_A8 _ (List.mem_of_getElem? (i := 14) rfl)
theorem aw_335 : Cond.instanceMethod yX6_tryId ∈ AL := ia_A8 _ (List.mem_of_getElem? (i := 15) rfl)
theorem aw_336 : Cond.selects RX6 yX6_tryId yX6_tryId ∈ AL := ia_A8 _ (List.mem_of_getElem? (i := 16) rfl)
theorem aw_337 : Cond.code yX6_tryId cX6_tryId 3 (some .int) ∈ AL := ia_A8 _ (List.mem_of_getElem? (i := 17) rfl)
theorem aw_338 : Cond.methodLink RX6 300 yX4_pile ∈ AL := ia_A8 _ (List.mem_of_getElem? (i := 18) rfl)
theorem aw_339 : Cond.methodLink RX6 304 yX6_writeBranchSearch ∈ AL := ia_A8 _ (List.mem_of_getElem? (i := 19) rfl)
theorem aw_340 : Cond.instanceMethod yX6_writeBranchSearch ∈ AL := ia_A8 _ (List.mem_of_getElem? (i := 20) rfl)
theorem aw_341 : Cond.selects RX6 yX6_writeBranchSearch yX6_writeBranchSearch ∈ AL := ia_A8 _ (List.mem_of_getElem? (i := 21) rfl)
theorem aw_342 : Cond.code yX6_writeBranchSearch cX6_writeBranchSearch 5 none ∈ AL := ia_A8 _ (List.mem_of_getElem? (i := 22) rfl)
theorem aw_343 : Cond.methodLink RX6 307 yX0_read ∈ AL := ia_A8 _ (List.mem_of_getElem? (i := 23) rfl)
theorem aw_344 : Cond.static yX0_read ∈ AL := ia_A8 _ (List.mem_of_getElem? (i := 24) rfl)
theorem aw_345 : Cond.code yX0_read cX0_read 6 (some .long) ∈ AL := ia_A8 _ (List.mem_of_getElem? (i := 25) rfl)
theorem aw_346 : Cond.methodLink RX6 313 yX4_hasFound ∈ AL := ia_A8 _ (List.mem_of_getElem? (i := 26) rfl)
theorem aw_347 : Cond.methodLink RX6 220 yX6_takeStep ∈ AL := ia_A8 _ (List.mem_of_getElem? (i := 27) rfl)
theorem aw_348 : Cond.instanceMethod yX6_takeStep ∈ AL := ia_A8 _ (List.mem_of_getElem? (i := 28) rfl)
theorem aw_349 : Cond.selects RX6 yX6_takeStep yX6_takeStep ∈ AL := ia_A8 _ (List.mem_of_getElem? (i := 29) rfl)
theorem aw_350 : Cond.code yX6_takeStep cX6_takeStep 10 none ∈ AL := ia_A8 _ (List.mem_of_getElem? (i := 30) rfl)
theorem aw_351 : Cond.methodLink RX7 1 objectInit ∈ AL := ia_A8 _ (List.mem_of_getElem? (i := 31) rfl)
theorem aw_352 : Cond.fieldLink RX7 7 "LampLineModel" "maker" "[I" ∈ AL := ia_A8 _ (List.mem_of_getElem? (i := 32) rfl)
theorem aw_353 : Cond.fieldLink RX7 13 "LampLineModel" "rest" "[J" ∈ AL := ia_A8 _ (List.mem_of_getElem? (i := 33) rfl)
theorem aw_354 : Cond.fieldLink RX7 17 "LampLineModel" "width" "[I" ∈ AL := ia_A8 _ (List.mem_of_getElem? (i := 34) rfl)
theorem aw_355 : Cond.fieldLink RX7 20 "LampLineModel" "modes" "[I" ∈ AL := ia_A8 _ (List.mem_of_getElem? (i := 35) rfl)
theorem aw_356 : Cond.fieldLink RX7 23 "LampLineModel" "mode" "[I" ∈ AL := ia_A8 _ (List.mem_of_getElem? (i := 36) rfl)
theorem aw_357 : Cond.fieldLink RX7 26 "LampLineModel" "address" "[I" ∈ AL := ia_A8 _ (List.mem_of_getElem? (i := 37) rfl)
theorem aw_358 : Cond.fieldLink RX7 29 "LampLineModel" "silent" "[Z" ∈ AL := ia_A8 _ (List.mem_of_getElem? (i := 38) rfl)
theorem aw_359 : Cond.fieldLink RX7 33 "LampLineModel" "shows" "[Z" ∈ AL := ia_A8 _ (List.mem_of_getElem? (i := 39) rfl)
theorem aw_360 : Cond.fieldLink RX7 36 "LampLineModel" "labelSize" "[I" ∈ AL := ia_A9 _ (List.mem_of_getElem? (i := 0) rfl)
theorem aw_361 : Cond.arrayClass .byte ∈ AL := ia_A9 _ (List.mem_of_getElem? (i := 1) rfl)
theorem aw_362 : Cond.fieldLink RX7 39 "LampLineModel" "label" "[B" ∈ AL := ia_A9 _ (List.mem_of_getElem? (i := 2) rfl)
theorem aw_363 : Cond.fieldLink RX7 43 "LampLineModel" "asked" "[I" ∈ AL := ia_A9 _ (List.mem_of_getElem? (i := 3) rfl)
theorem aw_364 : Cond.fieldLink RX7 46 "LampLineModel" "levels" "[I" ∈ AL := ia_A9 _ (List.mem_of_getElem? (i := 4) rfl)
theorem aw_365 : Cond.fieldLink RX7 49 "LampLineModel" "lit" "[I" ∈ AL := ia_A9 _ (List.mem_of_getElem? (i := 5) rfl)
theorem aw_366 : Cond.fieldLink RX7 52 "LampLineModel" "laters" "[I" ∈ AL := ia_A9 _ (List.mem_of_getElem? (i := 6) rfl)
theorem aw_367 : Cond.fieldLink RX7 55 "LampLineModel" "due" "[I" ∈ AL := ia_A9 _ (List.mem_of_getElem? (i := 7) rfl)
theorem aw_368 : Cond.fieldLink RX7 58 "LampLineModel" "laterSize" "[I" ∈ AL := ia_A9 _ (List.mem_of_getElem? (i := 8) rfl)
theorem aw_369 : Cond.fieldLink RX7 61 "LampLineModel" "laterBytes" "[B" ∈ AL := ia_A9 _ (List.mem_of_getElem? (i := 9) rfl)
theorem aw_370 : Cond.fieldLink RX7 64 "LampLineModel" "tape" "[B" ∈ AL := ia_A9 _ (List.mem_of_getElem? (i := 10) rfl)
theorem aw_371 : Cond.fieldLink RX7 67 "LampLineModel" "frame" "[B" ∈ AL := ia_A9 _ (List.mem_of_getElem? (i := 11) rfl)
theorem aw_372 : Cond.fieldLink RX7 70 "LampLineModel" "answer" "[B" ∈ AL := ia_A9 _ (List.mem_of_getElem? (i := 12) rfl)
theorem aw_373 : Cond.fieldLink RX7 73 "LampLineModel" "reply" "[B" ∈ AL := ia_A9 _ (List.mem_of_getElem? (i := 13) rfl)
theorem aw_374 : Cond.fieldLink RX7 76 "LampLineModel" "spoilAt" "[I" ∈ AL := ia_A9 _ (List.mem_of_getElem? (i := 14) rfl)
theorem aw_375 : Cond.fieldLink RX7 79 "LampLineModel" "spoilMask" "[I" ∈ AL := ia_A9 _ (List.mem_of_getElem? (i := 15) rfl)
theorem aw_376 : Cond.fieldLink RX7 82 "LampLineModel" "low" "[J" ∈ AL := ia_A9 _ (List.mem_of_getElem? (i := 16) rfl)
theorem aw_377 : Cond.fieldLink RX7 85 "LampLineModel" "high" "[J" ∈ AL := ia_A9 _ (List.mem_of_getElem? (i := 17) rfl)
theorem aw_378 : Cond.fieldLink RX7 88 "LampLineModel" "foundId" "[J" ∈ AL := ia_A9 _ (List.mem_of_getElem? (i := 18) rfl)
theorem aw_379 : Cond.fieldLink RX7 91 "LampLineModel" "thrown" "I" ∈ AL := ia_A9 _ (List.mem_of_getElem? (i := 19) rfl)
theorem aw_380 : Cond.methodLink RX7 95 yX7_idOf ∈ AL := ia_A9 _ (List.mem_of_getElem? (i := 20) rfl)
theorem aw_381 : Cond.static yX7_idOf ∈ AL := ia_A9 _ (List.mem_of_getElem? (i := 21) rfl)
theorem aw_382 : Cond.initialized RX7 ∈ AL := ia_A9 _ (List.mem_of_getElem? (i := 22) rfl)
theorem aw_383 : Cond.code yX7_idOf cX7_idOf 3 (some .long) ∈ AL := ia_A9 _ (List.mem_of_getElem? (i := 23) rfl)
theorem aw_384 : Cond.constantLong RX7 99 (32767) ∈ AL := ia_A9 _ (List.mem_of_getElem? (i := 24) rfl)
theorem aw_385 : Cond.constantLong RX7 105 (4294967294) ∈ AL := ia_A9 _ (List.mem_of_getElem? (i := 25) rfl)
theorem aw_386 : Cond.constantLong RX7 107 (64) ∈ AL := ia_A9 _ (List.mem_of_getElem? (i := 26) rfl)
theorem aw_387 : Cond.constantLong RX7 109 (8) ∈ AL := ia_A9 _ (List.mem_of_getElem? (i := 27) rfl)
theorem aw_388 : Cond.constantLong RX7 111 (512) ∈ AL := ia_A9 _ (List.mem_of_getElem? (i := 28) rfl)
theorem aw_389 : Cond.fieldLink RX7 113 "LampLineModel" "lamps" "I" ∈ AL := ia_A9 _ (List.mem_of_getElem? (i := 29) rfl)
theorem aw_390 : Cond.methodLink RX7 101 yX7_in ∈ AL := ia_A9 _ (List.mem_of_getElem? (i := 30) rfl)
theorem aw_391 : Cond.static yX7_in ∈ AL := ia_A9 _ (List.mem_of_getElem? (i := 31) rfl)
theorem aw_392 : Cond.code yX7_in cX7_in 6 (some .boolean) ∈ AL := ia_A9 _ (List.mem_of_getElem? (i := 32) rfl)
theorem aw_393 : Cond.fieldLink RX7 116 "LampLineModel" "taped" "I" ∈ AL := ia_A9 _ (List.mem_of_getElem? (i := 33) rfl)
theorem aw_394 : Cond.methodLink RX7 119 yX7_goes ∈ AL := ia_A9 _ (List.mem_of_getElem? (i := 34) rfl)
theorem aw_395 : Cond.instanceMethod yX7_goes ∈ AL := ia_A9 _ (List.mem_of_getElem? (i := 35) rfl)
theorem aw_396 : Cond.selects RX7 yX7_goes yX7_goes ∈ AL := ia_A9 _ (List.mem_of_getElem? (i := 36) rfl)
theorem aw_397 : Cond.code yX7_goes cX7_goes 2 (some .boolean) ∈ AL := ia_A9 _ (List.mem_of_getElem? (i := 37) rfl)
theorem aw_398 : Cond.methodLink RX7 123 yX7_at ∈ AL := ia_A9 _ (List.mem_of_getElem? (i := 38) rfl)
theorem aw_399 : Cond.instanceMethod yX7_at ∈ AL := ia_A9 _ (List.mem_of_getElem? (i := 39) rfl)
theorem aw_400 : Cond.selects RX7 yX7_at yX7_at ∈ AL := ia_A10 _ (List.mem_of_getElem? (i := 0) rfl)
theorem aw_401 : Cond.code yX7_at cX7_at 2 (some .int) ∈ AL := ia_A10 _ (List.mem_of_getElem? (i := 1) rfl)
theorem aw_402 : Cond.constantLong RX7 127 (256) ∈ AL := ia_A10 _ (List.mem_of_getElem? (i := 2) rfl)
theorem aw_403 : Cond.fieldLink RX7 129 "LampLineModel" "frames" "I" ∈ AL := ia_A10 _ (List.mem_of_getElem? (i := 3) rfl)
theorem aw_404 : Cond.fieldLink RX7 138 "LampLineModel" "frameSize" "I" ∈ AL := ia_A10 _ (List.mem_of_getElem? (i := 4) rfl)
theorem aw_405 : Cond.methodLink RX7 173 yX7_footprint ∈ AL := ia_A10 _ (List.mem_of_getElem? (i := 5) rfl)
theorem aw_406 : Cond.instanceMethod yX7_footprint ∈ AL := ia_A10 _ (List.mem_of_getElem? (i := 6) rfl)
theorem aw_407 : Cond.selects RX7 yX7_footprint yX7_footprint ∈ AL := ia_A10 _ (List.mem_of_getElem? (i := 7) rfl)
theorem aw_408 : Cond.code yX7_footprint cX7_footprint 2 (some .int) ∈ AL := ia_A10 _ (List.mem_of_getElem? (i := 8) rfl)
theorem aw_409 : Cond.constant RX7 176 (65536) ∈ AL := ia_A10 _ (List.mem_of_getElem? (i := 9) rfl)
theorem aw_410 : Cond.methodLink RX7 177 yX7_two ∈ AL := ia_A10 _ (List.mem_of_getElem? (i := 10) rfl)
theorem aw_411 : Cond.instanceMethod yX7_two ∈ AL := ia_A10 _ (List.mem_of_getElem? (i := 11) rfl)
theorem aw_412 : Cond.selects RX7 yX7_two yX7_two ∈ AL := ia_A10 _ (List.mem_of_getElem? (i := 12) rfl)
theorem aw_413 : Cond.code yX7_two cX7_two 2 (some .int) ∈ AL := ia_A10 _ (List.mem_of_getElem? (i := 13) rfl)
theorem aw_414 : Cond.fieldLink RX7 160 "LampLineModel" "replySize" "I" ∈ AL := ia_A10 _ (List.mem_of_getElem? (i := 14) rfl)
theorem aw_415 : Cond.methodLink RX7 180 yX7_put ∈ AL := ia_A10 _ (List.mem_of_getElem? (i := 15) rfl)
theorem aw_416 : Cond.instanceMethod yX7_put ∈ AL := ia_A10 _ (List.mem_of_getElem? (i := 16) rfl)
theorem aw_417 : Cond.selects RX7 yX7_put yX7_put ∈ AL := ia_A10 _ (List.mem_of_getElem? (i := 17) rfl)
theorem aw_418 : Cond.code yX7_put cX7_put 2 none ∈ AL := ia_A10 _ (List.mem_of_getElem? (i := 18) rfl)
theorem aw_419 : Cond.methodLink RX7 153 yX7_ownId ∈ AL := ia_A10 _ (List.mem_of_getElem? (i := 19) rfl)
theorem aw_420 : Cond.instanceMethod yX7_ownId ∈ AL := ia_A10 _ (List.mem_of_getElem? (i := 20) rfl)
theorem aw_421 : Cond.selects RX7 yX7_ownId yX7_ownId ∈ AL := ia_A10 _ (List.mem_of_getElem? (i := 21) rfl)
theorem aw_422 : Cond.code yX7_ownId cX7_ownId 2 (some .long) ∈ AL := ia_A10 _ (List.mem_of_getElem? (i := 22) rfl)
theorem aw_423 : Cond.methodLink RX7 183 yX7_putId ∈ AL := ia_A10 _ (List.mem_of_getElem? (i := 23) rfl)
theorem aw_424 : Cond.instanceMethod yX7_putId ∈ AL := ia_A10 _ (List.mem_of_getElem? (i := 24) rfl)
theorem aw_425 : Cond.selects RX7 yX7_putId yX7_putId ∈ AL := ia_A10 _ (List.mem_of_getElem? (i := 25) rfl)
theorem aw_426 : Cond.code yX7_putId cX7_putId 4 none ∈ AL := ia_A10 _ (List.mem_of_getElem? (i := 26) rfl)
theorem aw_427 : Cond.methodLink RX7 187 yX7_putTwo ∈ AL := ia_A10 _ (List.mem_of_getElem? (i := 27) rfl)
theorem aw_428 : Cond.instanceMethod yX7_putTwo ∈ AL := ia_A10 _ (List.mem_of_getElem? (i := 28) rfl)
theorem aw_429 : Cond.selects RX7 yX7_putTwo yX7_putTwo ∈ AL := ia_A10 _ (List.mem_of_getElem? (i := 29) rfl)
theorem aw_430 : Cond.code yX7_putTwo cX7_putTwo 2 none ∈ AL := ia_A10 _ (List.mem_of_getElem? (i := 30) rfl)
theorem aw_431 : Cond.methodLink RX7 190 yX7_waiting ∈ AL := ia_A10 _ (List.mem_of_getElem? (i := 31) rfl)
theorem aw_432 : Cond.instanceMethod yX7_waiting ∈ AL := ia_A10 _ (List.mem_of_getElem? (i := 32) rfl)
theorem aw_433 : Cond.selects RX7 yX7_waiting yX7_waiting ∈ AL := ia_A10 _ (List.mem_of_getElem? (i := 33) rfl)
theorem aw_434 : Cond.code yX7_waiting cX7_waiting 4 (some .int) ∈ AL := ia_A10 _ (List.mem_of_getElem? (i := 34) rfl)
theorem aw_435 : Cond.methodLink RX7 149 yX7_six ∈ AL := ia_A10 _ (List.mem_of_getElem? (i := 35) rfl)
theorem aw_436 : Cond.instanceMethod yX7_six ∈ AL := ia_A10 _ (List.mem_of_getElem? (i := 36) rfl)
theorem aw_437 : Cond.selects RX7 yX7_six yX7_six ∈ AL := ia_A10 _ (List.mem_of_getElem? (i := 37) rfl)
theorem aw_438 : Cond.code yX7_six cX7_six 5 (some .long) ∈ AL := ia_A10 _ (List.mem_of_getElem? (i := 38) rfl)
theorem aw_439 : Cond.methodLink RX7 202 yX7_show ∈ AL := ia_A10 _ (List.mem_of_getElem? (i := 39) rfl)
theorem aw_440 : Cond.instanceMethod yX7_show ∈ AL := ia_A11 _ (List.mem_of_getElem? (i := 0) rfl)
theorem aw_441 : Cond.selects RX7 yX7_show yX7_show ∈ AL := ia_A11 _ (List.mem_of_getElem? (i := 1) rfl)
theorem aw_442 : Cond.code yX7_show cX7_show 6 none ∈ AL := ia_A11 _ (List.mem_of_getElem? (i := 2) rfl)
theorem aw_443 : Cond.methodLink RX7 205 yX7_begin ∈ AL := ia_A11 _ (List.mem_of_getElem? (i := 3) rfl)
theorem aw_444 : Cond.instanceMethod yX7_begin ∈ AL := ia_A11 _ (List.mem_of_getElem? (i := 4) rfl)
theorem aw_445 : Cond.selects RX7 yX7_begin yX7_begin ∈ AL := ia_A11 _ (List.mem_of_getElem? (i := 5) rfl)
theorem aw_446 : Cond.code yX7_begin cX7_begin 6 none ∈ AL := ia_A11 _ (List.mem_of_getElem? (i := 6) rfl)
theorem aw_447 : Cond.methodLink RX7 209 yX7_finish ∈ AL := ia_A11 _ (List.mem_of_getElem? (i := 7) rfl)
theorem aw_448 : Cond.instanceMethod yX7_finish ∈ AL := ia_A11 _ (List.mem_of_getElem? (i := 8) rfl)
theorem aw_449 : Cond.selects RX7 yX7_finish yX7_finish ∈ AL := ia_A11 _ (List.mem_of_getElem? (i := 9) rfl)
theorem aw_450 : Cond.code yX7_finish cX7_finish 4 none ∈ AL := ia_A11 _ (List.mem_of_getElem? (i := 10) rfl)
theorem aw_451 : Cond.methodLink RX7 212 yX7_refuse ∈ AL := ia_A11 _ (List.mem_of_getElem? (i := 11) rfl)
theorem aw_452 : Cond.instanceMethod yX7_refuse ∈ AL := ia_A11 _ (List.mem_of_getElem? (i := 12) rfl)
theorem aw_453 : Cond.selects RX7 yX7_refuse yX7_refuse ∈ AL := ia_A11 _ (List.mem_of_getElem? (i := 13) rfl)
theorem aw_454 : Cond.code yX7_refuse cX7_refuse 4 none ∈ AL := ia_A11 _ (List.mem_of_getElem? (i := 14) rfl)
theorem aw_455 : Cond.methodLink RX7 216 yX7_isMatter ∈ AL := ia_A11 _ (List.mem_of_getElem? (i := 15) rfl)
theorem aw_456 : Cond.static yX7_isMatter ∈ AL := ia_A11 _ (List.mem_of_getElem? (i := 16) rfl)
theorem aw_457 : Cond.code yX7_isMatter cX7_isMatter 1 (some .boolean) ∈ AL := ia_A11 _ (List.mem_of_getElem? (i := 17) rfl)
theorem aw_458 : Cond.methodLink RX7 220 yX7_getWaiting ∈ AL := ia_A11 _ (List.mem_of_getElem? (i := 18) rfl)
theorem aw_459 : Cond.instanceMethod yX7_getWaiting ∈ AL := ia_A11 _ (List.mem_of_getElem? (i := 19) rfl)
theorem aw_460 : Cond.selects RX7 yX7_getWaiting yX7_getWaiting ∈ AL := ia_A11 _ (List.mem_of_getElem? (i := 20) rfl)
theorem aw_461 : Cond.code yX7_getWaiting cX7_getWaiting 6 none ∈ AL := ia_A11 _ (List.mem_of_getElem? (i := 21) rfl)
theorem aw_462 : Cond.methodLink RX7 223 yX7_tell ∈ AL := ia_A11 _ (List.mem_of_getElem? (i := 22) rfl)
theorem aw_463 : Cond.instanceMethod yX7_tell ∈ AL := ia_A11 _ (List.mem_of_getElem? (i := 23) rfl)
theorem aw_464 : Cond.selects RX7 yX7_tell yX7_tell ∈ AL := ia_A11 _ (List.mem_of_getElem? (i := 24) rfl)
theorem aw_465 : Cond.code yX7_tell cX7_tell 5 none ∈ AL := ia_A11 _ (List.mem_of_getElem? (i := 25) rfl)
theorem aw_466 : Cond.constantLong RX7 235 (32) ∈ AL := ia_A11 _ (List.mem_of_getElem? (i := 26) rfl)
theorem aw_467 : Cond.constantLong RX7 237 (126) ∈ AL := ia_A11 _ (List.mem_of_getElem? (i := 27) rfl)
theorem aw_468 : Cond.constant RX7 227 (65535) ∈ AL := ia_A11 _ (List.mem_of_getElem? (i := 28) rfl)
theorem aw_469 : Cond.methodLink RX7 228 yX7_mayBe ∈ AL := ia_A11 _ (List.mem_of_getElem? (i := 29) rfl)
theorem aw_470 : Cond.instanceMethod yX7_mayBe ∈ AL := ia_A11 _ (List.mem_of_getElem? (i := 30) rfl)
theorem aw_471 : Cond.selects RX7 yX7_mayBe yX7_mayBe ∈ AL := ia_A11 _ (List.mem_of_getElem? (i := 31) rfl)
theorem aw_472 : Cond.code yX7_mayBe cX7_mayBe 6 (some .boolean) ∈ AL := ia_A11 _ (List.mem_of_getElem? (i := 32) rfl)
theorem aw_473 : Cond.methodLink RX7 232 yX7_setLabel ∈ AL := ia_A11 _ (List.mem_of_getElem? (i := 33) rfl)
theorem aw_474 : Cond.instanceMethod yX7_setLabel ∈ AL := ia_A11 _ (List.mem_of_getElem? (i := 34) rfl)
theorem aw_475 : Cond.selects RX7 yX7_setLabel yX7_setLabel ∈ AL := ia_A11 _ (List.mem_of_getElem? (i := 35) rfl)
theorem aw_476 : Cond.code yX7_setLabel cX7_setLabel 6 none ∈ AL := ia_A11 _ (List.mem_of_getElem? (i := 36) rfl)
theorem aw_477 : Cond.methodLink RX7 193 yX7_hearSearch ∈ AL := ia_A11 _ (List.mem_of_getElem? (i := 37) rfl)
theorem aw_478 : Cond.instanceMethod yX7_hearSearch ∈ AL := ia_A11 _ (List.mem_of_getElem? (i := 38) rfl)
theorem aw_479 : Cond.selects RX7 yX7_hearSearch yX7_hearSearch ∈ AL := ia_A11 _ (List.mem_of_getElem? (i := 39) rfl)
theorem aw_480 : Cond.code yX7_hearSearch cX7_hearSearch 7 none ∈ AL := ia_A12 _ (List.mem_of_getElem? (i := 0) rfl)
theorem aw_481 : Cond.methodLink RX7 196 yX7_get ∈ AL := ia_A12 _ (List.mem_of_getElem? (i := 1) rfl)
theorem aw_482 : Cond.instanceMethod yX7_get ∈ AL := ia_A12 _ (List.mem_of_getElem? (i := 2) rfl)
theorem aw_483 : Cond.selects RX7 yX7_get yX7_get ∈ AL := ia_A12 _ (List.mem_of_getElem? (i := 3) rfl)
theorem aw_484 : Cond.code yX7_get cX7_get 3 none ∈ AL := ia_A12 _ (List.mem_of_getElem? (i := 4) rfl)
theorem aw_485 : Cond.methodLink RX7 199 yX7_set ∈ AL := ia_A12 _ (List.mem_of_getElem? (i := 5) rfl)
theorem aw_486 : Cond.instanceMethod yX7_set ∈ AL := ia_A12 _ (List.mem_of_getElem? (i := 6) rfl)
theorem aw_487 : Cond.selects RX7 yX7_set yX7_set ∈ AL := ia_A12 _ (List.mem_of_getElem? (i := 7) rfl)
theorem aw_488 : Cond.code yX7_set cX7_set 6 none ∈ AL := ia_A12 _ (List.mem_of_getElem? (i := 8) rfl)
theorem aw_489 : Cond.fieldLink RX7 135 "LampLineModel" "answered" "I" ∈ AL := ia_A12 _ (List.mem_of_getElem? (i := 9) rfl)
theorem aw_490 : Cond.constantLong RX7 156 (4294967295) ∈ AL := ia_A12 _ (List.mem_of_getElem? (i := 10) rfl)
theorem aw_491 : Cond.constantLong RX7 158 (65535) ∈ AL := ia_A12 _ (List.mem_of_getElem? (i := 11) rfl)
theorem aw_492 : Cond.fieldLink RX7 170 "LampLineModel" "spoils" "I" ∈ AL := ia_A12 _ (List.mem_of_getElem? (i := 12) rfl)
theorem aw_493 : Cond.methodLink RX7 132 yX7_doDue ∈ AL := ia_A12 _ (List.mem_of_getElem? (i := 13) rfl)
theorem aw_494 : Cond.instanceMethod yX7_doDue ∈ AL := ia_A12 _ (List.mem_of_getElem? (i := 14) rfl)
theorem aw_495 : Cond.selects RX7 yX7_doDue yX7_doDue ∈ AL := ia_A12 _ (List.mem_of_getElem? (i := 15) rfl)
theorem aw_496 : Cond.code yX7_doDue cX7_doDue 5 none ∈ AL := ia_A12 _ (List.mem_of_getElem? (i := 16) rfl)
theorem aw_497 : Cond.methodLink RX7 141 yX7_takeLevels ∈ AL := ia_A12 _ (List.mem_of_getElem? (i := 17) rfl)
theorem aw_498 : Cond.instanceMethod yX7_takeLevels ∈ AL := ia_A12 _ (List.mem_of_getElem? (i := 18) rfl)
theorem aw_499 : Cond.selects RX7 yX7_takeLevels yX7_takeLevels ∈ AL := ia_A12 _ (List.mem_of_getElem? (i := 19) rfl)
theorem aw_500 : Cond.code yX7_takeLevels cX7_takeLevels 3 none ∈ AL := ia_A12 _ (List.mem_of_getElem? (i := 20) rfl)
theorem aw_501 : Cond.methodLink RX7 145 yX7_isPacket ∈ AL := ia_A12 _ (List.mem_of_getElem? (i := 21) rfl)
theorem aw_502 : Cond.instanceMethod yX7_isPacket ∈ AL := ia_A12 _ (List.mem_of_getElem? (i := 22) rfl)
theorem aw_503 : Cond.selects RX7 yX7_isPacket yX7_isPacket ∈ AL := ia_A12 _ (List.mem_of_getElem? (i := 23) rfl)
theorem aw_504 : Cond.code yX7_isPacket cX7_isPacket 3 (some .boolean) ∈ AL := ia_A12 _ (List.mem_of_getElem? (i := 24) rfl)
theorem aw_505 : Cond.methodLink RX7 163 yX7_hear ∈ AL := ia_A12 _ (List.mem_of_getElem? (i := 25) rfl)
theorem aw_506 : Cond.instanceMethod yX7_hear ∈ AL := ia_A12 _ (List.mem_of_getElem? (i := 26) rfl)
theorem aw_507 : Cond.selects RX7 yX7_hear yX7_hear ∈ AL := ia_A12 _ (List.mem_of_getElem? (i := 27) rfl)
theorem aw_508 : Cond.code yX7_hear cX7_hear 3 none ∈ AL := ia_A12 _ (List.mem_of_getElem? (i := 28) rfl)
theorem aw_509 : Cond.methodLink RX7 167 yX7_fall ∈ AL := ia_A12 _ (List.mem_of_getElem? (i := 29) rfl)
theorem aw_510 : Cond.instanceMethod yX7_fall ∈ AL := ia_A12 _ (List.mem_of_getElem? (i := 30) rfl)
theorem aw_511 : Cond.selects RX7 yX7_fall yX7_fall ∈ AL := ia_A12 _ (List.mem_of_getElem? (i := 31) rfl)
theorem aw_512 : Cond.code yX7_fall cX7_fall 2 none ∈ AL := ia_A12 _ (List.mem_of_getElem? (i := 32) rfl)
theorem aw_513 : Cond.methodLink RX7 239 yX7_look ∈ AL := ia_A12 _ (List.mem_of_getElem? (i := 33) rfl)
theorem aw_514 : Cond.instanceMethod yX7_look ∈ AL := ia_A12 _ (List.mem_of_getElem? (i := 34) rfl)
theorem aw_515 : Cond.selects RX7 yX7_look yX7_look ∈ AL := ia_A12 _ (List.mem_of_getElem? (i := 35) rfl)
theorem aw_516 : Cond.code yX7_look cX7_look 6 none ∈ AL := ia_A12 _ (List.mem_of_getElem? (i := 36) rfl)
theorem aw_517 : Cond.methodLink RX7 242 yX7_write ∈ AL := ia_A12 _ (List.mem_of_getElem? (i := 37) rfl)
theorem aw_518 : Cond.instanceMethod yX7_write ∈ AL := ia_A12 _ (List.mem_of_getElem? (i := 38) rfl)
theorem aw_519 : Cond.selects RX7 yX7_write yX7_write ∈ AL := ia_A12 _ (List.mem_of_getElem? (i := 39) rfl)
theorem aw_520 : Cond.code yX7_write cX7_write 2 none ∈ AL := ia_A13 _ (List.mem_of_getElem? (i := 0) rfl)
theorem aw_521 : Cond.fieldLink RX7 245 "LampLineModel" "counted" "I" ∈ AL := ia_A13 _ (List.mem_of_getElem? (i := 1) rfl)
theorem aw_522 : Cond.methodLink RX7 248 yX7_writeSix ∈ AL := ia_A13 _ (List.mem_of_getElem? (i := 2) rfl)
theorem aw_523 : Cond.instanceMethod yX7_writeSix ∈ AL := ia_A13 _ (List.mem_of_getElem? (i := 3) rfl)
theorem aw_524 : Cond.selects RX7 yX7_writeSix yX7_writeSix ∈ AL := ia_A13 _ (List.mem_of_getElem? (i := 4) rfl)
theorem aw_525 : Cond.code yX7_writeSix cX7_writeSix 4 none ∈ AL := ia_A13 _ (List.mem_of_getElem? (i := 5) rfl)
theorem aw_526 : Cond.methodLink RX7 251 yX7_heard ∈ AL := ia_A13 _ (List.mem_of_getElem? (i := 6) rfl)
theorem aw_527 : Cond.instanceMethod yX7_heard ∈ AL := ia_A13 _ (List.mem_of_getElem? (i := 7) rfl)
theorem aw_528 : Cond.selects RX7 yX7_heard yX7_heard ∈ AL := ia_A13 _ (List.mem_of_getElem? (i := 8) rfl)
theorem aw_529 : Cond.code yX7_heard cX7_heard 2 (some .int) ∈ AL := ia_A13 _ (List.mem_of_getElem? (i := 9) rfl)
theorem aw_530 : Cond.methodLink RX7 254 yX7_heardSix ∈ AL := ia_A13 _ (List.mem_of_getElem? (i := 10) rfl)
theorem aw_531 : Cond.instanceMethod yX7_heardSix ∈ AL := ia_A13 _ (List.mem_of_getElem? (i := 11) rfl)
theorem aw_532 : Cond.selects RX7 yX7_heardSix yX7_heardSix ∈ AL := ia_A13 _ (List.mem_of_getElem? (i := 12) rfl)
theorem aw_533 : Cond.code yX7_heardSix cX7_heardSix 5 (some .long) ∈ AL := ia_A13 _ (List.mem_of_getElem? (i := 13) rfl)
theorem aw_534 : Cond.constantLong RX7 257 (255) ∈ AL := ia_A13 _ (List.mem_of_getElem? (i := 14) rfl)
theorem aw_535 : Cond.methodLink RX7 259 yX7_beginPacket ∈ AL := ia_A13 _ (List.mem_of_getElem? (i := 15) rfl)
theorem aw_536 : Cond.instanceMethod yX7_beginPacket ∈ AL := ia_A13 _ (List.mem_of_getElem? (i := 16) rfl)
theorem aw_537 : Cond.selects RX7 yX7_beginPacket yX7_beginPacket ∈ AL := ia_A13 _ (List.mem_of_getElem? (i := 17) rfl)
theorem aw_538 : Cond.code yX7_beginPacket cX7_beginPacket 6 none ∈ AL := ia_A13 _ (List.mem_of_getElem? (i := 18) rfl)
theorem aw_539 : Cond.methodLink RX7 263 yX7_sendOff ∈ AL := ia_A13 _ (List.mem_of_getElem? (i := 19) rfl)
theorem aw_540 : Cond.instanceMethod yX7_sendOff ∈ AL := ia_A13 _ (List.mem_of_getElem? (i := 20) rfl)
theorem aw_541 : Cond.selects RX7 yX7_sendOff yX7_sendOff ∈ AL := ia_A13 _ (List.mem_of_getElem? (i := 21) rfl)
theorem aw_542 : Cond.code yX7_sendOff cX7_sendOff 3 none ∈ AL := ia_A13 _ (List.mem_of_getElem? (i := 22) rfl)
theorem aw_543 : Cond.methodLink RX7 266 yX7_isReply ∈ AL := ia_A13 _ (List.mem_of_getElem? (i := 23) rfl)
theorem aw_544 : Cond.instanceMethod yX7_isReply ∈ AL := ia_A13 _ (List.mem_of_getElem? (i := 24) rfl)
theorem aw_545 : Cond.selects RX7 yX7_isReply yX7_isReply ∈ AL := ia_A13 _ (List.mem_of_getElem? (i := 25) rfl)
theorem aw_546 : Cond.code yX7_isReply cX7_isReply 5 (some .boolean) ∈ AL := ia_A13 _ (List.mem_of_getElem? (i := 26) rfl)
theorem aw_547 : Cond.constantLong RX7 270 (300) ∈ AL := ia_A13 _ (List.mem_of_getElem? (i := 27) rfl)
theorem aw_548 : Cond.constantLong RX7 275 (10) ∈ AL := ia_A13 _ (List.mem_of_getElem? (i := 28) rfl)
theorem aw_549 : Cond.methodLink RX7 272 yX7_isLamp ∈ AL := ia_A13 _ (List.mem_of_getElem? (i := 29) rfl)
theorem aw_550 : Cond.instanceMethod yX7_isLamp ∈ AL := ia_A13 _ (List.mem_of_getElem? (i := 30) rfl)
theorem aw_551 : Cond.selects RX7 yX7_isLamp yX7_isLamp ∈ AL := ia_A13 _ (List.mem_of_getElem? (i := 31) rfl)
theorem aw_552 : Cond.code yX7_isLamp cX7_isLamp 2 (some .boolean) ∈ AL := ia_A13 _ (List.mem_of_getElem? (i := 32) rfl)
theorem aw_553 : Cond.fieldLink RX7 277 "LampLineModel" "searching" "Z" ∈ AL := ia_A13 _ (List.mem_of_getElem? (i := 33) rfl)
theorem aw_554 : Cond.fieldLink RX7 281 "LampLineModel" "steps" "I" ∈ AL := ia_A13 _ (List.mem_of_getElem? (i := 34) rfl)
theorem aw_555 : Cond.fieldLink RX7 284 "LampLineModel" "found" "I" ∈ AL := ia_A13 _ (List.mem_of_getElem? (i := 35) rfl)
theorem aw_556 : Cond.fieldLink RX7 287 "LampLineModel" "branches" "I" ∈ AL := ia_A13 _ (List.mem_of_getElem? (i := 36) rfl)
theorem aw_557 : Cond.constantLong RX7 290 (281474976710654) ∈ AL := ia_A13 _ (List.mem_of_getElem? (i := 37) rfl)
theorem aw_558 : Cond.constantLong RX7 292 (281474976710655) ∈ AL := ia_A13 _ (List.mem_of_getElem? (i := 38) rfl)
theorem aw_559 : Cond.methodLink RX7 294 yX7_isFound ∈ AL := ia_A13 _ (List.mem_of_getElem? (i := 39) rfl)
theorem aw_560 : Cond.instanceMethod yX7_isFound ∈ AL := ia_A14 _ (List.mem_of_getElem? (i := 0) rfl)
theorem aw_561 : Cond.selects RX7 yX7_isFound yX7_isFound ∈ AL := ia_A14 _ (List.mem_of_getElem? (i := 1) rfl)
theorem aw_562 : Cond.code yX7_isFound cX7_isFound 5 (some .boolean) ∈ AL := ia_A14 _ (List.mem_of_getElem? (i := 2) rfl)
theorem aw_563 : Cond.constantLong RX7 297 (-1) ∈ AL := ia_A14 _ (List.mem_of_getElem? (i := 3) rfl)
theorem aw_564 : Cond.constantLong RX7 314 (2) ∈ AL := ia_A14 _ (List.mem_of_getElem? (i := 4) rfl)
theorem aw_565 : Cond.methodLink RX7 299 yX7_isId ∈ AL := ia_A14 _ (List.mem_of_getElem? (i := 5) rfl)
theorem aw_566 : Cond.static yX7_isId ∈ AL := ia_A14 _ (List.mem_of_getElem? (i := 6) rfl)
theorem aw_567 : Cond.code yX7_isId cX7_isId 2 (some .boolean) ∈ AL := ia_A14 _ (List.mem_of_getElem? (i := 7) rfl)
theorem aw_568 : Cond.methodLink RX7 302 yX7_tried ∈ AL := ia_A14 _ (List.mem_of_getElem? (i := 8) rfl)
theorem aw_569 : Cond.instanceMethod yX7_tried ∈ AL := ia_A14 _ (List.mem_of_getElem? (i := 9) rfl)
theorem aw_570 : Cond.selects RX7 yX7_tried yX7_tried ∈ AL := ia_A14 _ (List.mem_of_getElem? (i := 10) rfl)
theorem aw_571 : Cond.code yX7_tried cX7_tried 3 (some .int) ∈ AL := ia_A14 _ (List.mem_of_getElem? (i := 11) rfl)
theorem aw_572 : Cond.methodLink RX7 306 yX7_push ∈ AL := ia_A14 _ (List.mem_of_getElem? (i := 12) rfl)
theorem aw_573 : Cond.instanceMethod yX7_push ∈ AL := ia_A14 _ (List.mem_of_getElem? (i := 13) rfl)
theorem aw_574 : Cond.selects RX7 yX7_push yX7_push ∈ AL := ia_A14 _ (List.mem_of_getElem? (i := 14) rfl)
theorem aw_575 : Cond.code yX7_push cX7_push 5 none ∈ AL := ia_A14 _ (List.mem_of_getElem? (i := 15) rfl)
theorem aw_576 : Cond.methodLink RX7 310 yX7_shown ∈ AL := ia_A14 _ (List.mem_of_getElem? (i := 16) rfl)
theorem aw_577 : Cond.instanceMethod yX7_shown ∈ AL := ia_A14 _ (List.mem_of_getElem? (i := 17) rfl)
theorem aw_578 : Cond.selects RX7 yX7_shown yX7_shown ∈ AL := ia_A14 _ (List.mem_of_getElem? (i := 18) rfl)
theorem aw_579 : Cond.code yX7_shown cX7_shown 8 (some .long) ∈ AL := ia_A14 _ (List.mem_of_getElem? (i := 19) rfl)
theorem aw_580 : Cond.constantLong RX7 316 (1000) ∈ AL := ia_A14 _ (List.mem_of_getElem? (i := 20) rfl)
theorem aw_581 : Cond.methodLink RX7 318 yX7_stepOnce ∈ AL := ia_A14 _ (List.mem_of_getElem? (i := 21) rfl)
theorem aw_582 : Cond.instanceMethod yX7_stepOnce ∈ AL := ia_A14 _ (List.mem_of_getElem? (i := 22) rfl)
theorem aw_583 : Cond.selects RX7 yX7_stepOnce yX7_stepOnce ∈ AL := ia_A14 _ (List.mem_of_getElem? (i := 23) rfl)
theorem aw_584 : Cond.code yX7_stepOnce cX7_stepOnce 9 none ∈ AL := ia_A14 _ (List.mem_of_getElem? (i := 24) rfl)
theorem aw_585 : Cond.classLink RL 13 "java/lang/IllegalArgumentException" ∈ AL := ia_A14 _ (List.mem_of_getElem? (i := 25) rfl)
theorem aw_586 : Cond.classLink RL 15 "java/lang/IllegalStateException" ∈ AL := ia_A14 _ (List.mem_of_getElem? (i := 26) rfl)
theorem aw_587 : Cond.methodLink RL 7 yX6_lamp ∈ AL := ia_A14 _ (List.mem_of_getElem? (i := 27) rfl)
theorem aw_588 : Cond.instanceMethod yX6_lamp ∈ AL := ia_A14 _ (List.mem_of_getElem? (i := 28) rfl)
theorem aw_589 : Cond.selects RX6 yX6_lamp yX6_lamp ∈ AL := ia_A14 _ (List.mem_of_getElem? (i := 29) rfl)
theorem aw_590 : Cond.code yX6_lamp cX6_lamp 9 (some .int) ∈ AL := ia_A14 _ (List.mem_of_getElem? (i := 30) rfl)
theorem aw_591 : Cond.methodLink RL 17 yX6_feed ∈ AL := ia_A14 _ (List.mem_of_getElem? (i := 31) rfl)
theorem aw_592 : Cond.instanceMethod yX6_feed ∈ AL := ia_A14 _ (List.mem_of_getElem? (i := 32) rfl)
theorem aw_593 : Cond.selects RX6 yX6_feed yX6_feed ∈ AL := ia_A14 _ (List.mem_of_getElem? (i := 33) rfl)
theorem aw_594 : Cond.code yX6_feed cX6_feed 6 (some .int) ∈ AL := ia_A14 _ (List.mem_of_getElem? (i := 34) rfl)
theorem aw_595 : Cond.methodLink RL 21 yX6_end ∈ AL := ia_A14 _ (List.mem_of_getElem? (i := 35) rfl)
theorem aw_596 : Cond.instanceMethod yX6_end ∈ AL := ia_A14 _ (List.mem_of_getElem? (i := 36) rfl)
theorem aw_597 : Cond.selects RX6 yX6_end yX6_end ∈ AL := ia_A14 _ (List.mem_of_getElem? (i := 37) rfl)
theorem aw_598 : Cond.code yX6_end cX6_end 2 none ∈ AL := ia_A14 _ (List.mem_of_getElem? (i := 38) rfl)
theorem aw_599 : Cond.classLink RL 29 "java/lang/IndexOutOfBoundsException" ∈ AL := ia_A14 _ (List.mem_of_getElem? (i := 39) rfl)
theorem aw_600 : Cond.methodLink RL 25 yX6_answer ∈ AL := ia_A15 _ (List.mem_of_getElem? (i := 0) rfl)
theorem aw_601 : Cond.instanceMethod yX6_answer ∈ AL := ia_A15 _ (List.mem_of_getElem? (i := 1) rfl)
theorem aw_602 : Cond.selects RX6 yX6_answer yX6_answer ∈ AL := ia_A15 _ (List.mem_of_getElem? (i := 2) rfl)
theorem aw_603 : Cond.code yX6_answer cX6_answer 2 (some .int) ∈ AL := ia_A15 _ (List.mem_of_getElem? (i := 3) rfl)
theorem aw_604 : Cond.methodLink RL 31 yX6_ask ∈ AL := ia_A15 _ (List.mem_of_getElem? (i := 4) rfl)
theorem aw_605 : Cond.instanceMethod yX6_ask ∈ AL := ia_A15 _ (List.mem_of_getElem? (i := 5) rfl)
theorem aw_606 : Cond.selects RX6 yX6_ask yX6_ask ∈ AL := ia_A15 _ (List.mem_of_getElem? (i := 6) rfl)
theorem aw_607 : Cond.code yX6_ask cX6_ask 9 (some .int) ∈ AL := ia_A15 _ (List.mem_of_getElem? (i := 7) rfl)
theorem aw_608 : Cond.methodLink RL 34 yX6_spoil ∈ AL := ia_A15 _ (List.mem_of_getElem? (i := 8) rfl)
theorem aw_609 : Cond.instanceMethod yX6_spoil ∈ AL := ia_A15 _ (List.mem_of_getElem? (i := 9) rfl)
theorem aw_610 : Cond.selects RX6 yX6_spoil yX6_spoil ∈ AL := ia_A15 _ (List.mem_of_getElem? (i := 10) rfl)
theorem aw_611 : Cond.code yX6_spoil cX6_spoil 3 none ∈ AL := ia_A15 _ (List.mem_of_getElem? (i := 11) rfl)
theorem aw_612 : Cond.methodLink RL 38 yX6_about ∈ AL := ia_A15 _ (List.mem_of_getElem? (i := 12) rfl)
theorem aw_613 : Cond.instanceMethod yX6_about ∈ AL := ia_A15 _ (List.mem_of_getElem? (i := 13) rfl)
theorem aw_614 : Cond.selects RX6 yX6_about yX6_about ∈ AL := ia_A15 _ (List.mem_of_getElem? (i := 14) rfl)
theorem aw_615 : Cond.code yX6_about cX6_about 4 (some .int) ∈ AL := ia_A15 _ (List.mem_of_getElem? (i := 15) rfl)
theorem aw_616 : Cond.methodLink RL 42 yX6_rest ∈ AL := ia_A15 _ (List.mem_of_getElem? (i := 16) rfl)
theorem aw_617 : Cond.instanceMethod yX6_rest ∈ AL := ia_A15 _ (List.mem_of_getElem? (i := 17) rfl)
theorem aw_618 : Cond.selects RX6 yX6_rest yX6_rest ∈ AL := ia_A15 _ (List.mem_of_getElem? (i := 18) rfl)
theorem aw_619 : Cond.code yX6_rest cX6_rest 2 (some .long) ∈ AL := ia_A15 _ (List.mem_of_getElem? (i := 19) rfl)
theorem aw_620 : Cond.methodLink RL 46 yX6_level ∈ AL := ia_A15 _ (List.mem_of_getElem? (i := 20) rfl)
theorem aw_621 : Cond.instanceMethod yX6_level ∈ AL := ia_A15 _ (List.mem_of_getElem? (i := 21) rfl)
theorem aw_622 : Cond.selects RX6 yX6_level yX6_level ∈ AL := ia_A15 _ (List.mem_of_getElem? (i := 22) rfl)
theorem aw_623 : Cond.code yX6_level cX6_level 4 (some .int) ∈ AL := ia_A15 _ (List.mem_of_getElem? (i := 23) rfl)
theorem aw_624 : Cond.methodLink RL 49 yX6_label ∈ AL := ia_A15 _ (List.mem_of_getElem? (i := 24) rfl)
theorem aw_625 : Cond.instanceMethod yX6_label ∈ AL := ia_A15 _ (List.mem_of_getElem? (i := 25) rfl)
theorem aw_626 : Cond.selects RX6 yX6_label yX6_label ∈ AL := ia_A15 _ (List.mem_of_getElem? (i := 26) rfl)
theorem aw_627 : Cond.code yX6_label cX6_label 4 (some .int) ∈ AL := ia_A15 _ (List.mem_of_getElem? (i := 27) rfl)
theorem aw_628 : Cond.methodLink RL 52 yX6_silence ∈ AL := ia_A15 _ (List.mem_of_getElem? (i := 28) rfl)
theorem aw_629 : Cond.instanceMethod yX6_silence ∈ AL := ia_A15 _ (List.mem_of_getElem? (i := 29) rfl)
theorem aw_630 : Cond.selects RX6 yX6_silence yX6_silence ∈ AL := ia_A15 _ (List.mem_of_getElem? (i := 30) rfl)
theorem aw_631 : Cond.code yX6_silence cX6_silence 5 (some .int) ∈ AL := ia_A15 _ (List.mem_of_getElem? (i := 31) rfl)
theorem aw_632 : Cond.methodLink RL 56 yX6_step ∈ AL := ia_A15 _ (List.mem_of_getElem? (i := 32) rfl)
theorem aw_633 : Cond.instanceMethod yX6_step ∈ AL := ia_A15 _ (List.mem_of_getElem? (i := 33) rfl)
theorem aw_634 : Cond.selects RX6 yX6_step yX6_step ∈ AL := ia_A15 _ (List.mem_of_getElem? (i := 34) rfl)
theorem aw_635 : Cond.code yX6_step cX6_step 3 (some .int) ∈ AL := ia_A15 _ (List.mem_of_getElem? (i := 35) rfl)
theorem aw_636 : Cond.methodLink RL 59 yX6_id ∈ AL := ia_A15 _ (List.mem_of_getElem? (i := 36) rfl)
theorem aw_637 : Cond.instanceMethod yX6_id ∈ AL := ia_A15 _ (List.mem_of_getElem? (i := 37) rfl)
theorem aw_638 : Cond.selects RX6 yX6_id yX6_id ∈ AL := ia_A15 _ (List.mem_of_getElem? (i := 38) rfl)
theorem aw_639 : Cond.code yX6_id cX6_id 2 (some .long) ∈ AL := ia_A15 _ (List.mem_of_getElem? (i := 39) rfl)
theorem aw_640 : Cond.methodLink RL 62 yX6_branch ∈ AL := ia_A16 _ (List.mem_of_getElem? (i := 0) rfl)
theorem aw_641 : Cond.instanceMethod yX6_branch ∈ AL := ia_A16 _ (List.mem_of_getElem? (i := 1) rfl)
theorem aw_642 : Cond.selects RX6 yX6_branch yX6_branch ∈ AL := ia_A16 _ (List.mem_of_getElem? (i := 2) rfl)
theorem aw_643 : Cond.code yX6_branch cX6_branch 2 (some .long) ∈ AL := ia_A16 _ (List.mem_of_getElem? (i := 3) rfl)
theorem aw_644 : Cond.classLink RL 8 RX6 ∈ AL := ia_A16 _ (List.mem_of_getElem? (i := 4) rfl)
theorem aw_645 : Cond.instantiable RX6 13 ∈ AL := ia_A16 _ (List.mem_of_getElem? (i := 5) rfl)
theorem aw_646 : Cond.classLink RL 66 RX7 ∈ AL := ia_A16 _ (List.mem_of_getElem? (i := 6) rfl)
theorem aw_647 : Cond.instantiable RX7 39 ∈ AL := ia_A16 _ (List.mem_of_getElem? (i := 7) rfl)
theorem aw_648 : Cond.constantLong RL 69 (4294967295) ∈ AL := ia_A16 _ (List.mem_of_getElem? (i := 8) rfl)
theorem aw_649 : Cond.methodLink RL 65 yX6_init ∈ AL := ia_A16 _ (List.mem_of_getElem? (i := 9) rfl)
theorem aw_650 : Cond.instanceMethod yX6_init ∈ AL := ia_A16 _ (List.mem_of_getElem? (i := 10) rfl)
theorem aw_651 : Cond.code yX6_init cX6_init 1 none ∈ AL := ia_A16 _ (List.mem_of_getElem? (i := 11) rfl)
theorem aw_652 : Cond.methodLink RL 68 yX7_init ∈ AL := ia_A16 _ (List.mem_of_getElem? (i := 12) rfl)
theorem aw_653 : Cond.instanceMethod yX7_init ∈ AL := ia_A16 _ (List.mem_of_getElem? (i := 13) rfl)
theorem aw_654 : Cond.code yX7_init cX7_init 1 none ∈ AL := ia_A16 _ (List.mem_of_getElem? (i := 14) rfl)
theorem aw_655 : Cond.methodLink RL 71 yL_lamp ∈ AL := ia_A16 _ (List.mem_of_getElem? (i := 15) rfl)
theorem aw_656 : Cond.static yL_lamp ∈ AL := ia_A16 _ (List.mem_of_getElem? (i := 16) rfl)
theorem aw_657 : Cond.initialized RL ∈ AL := ia_A16 _ (List.mem_of_getElem? (i := 17) rfl)
theorem aw_658 : Cond.codeWith yL_lamp cL_lamp 9 (some .int) [(0, 17, 20, 13), (0, 17, 24, 15)] ∈ AL := ia_A16 _ (List.mem_of_getElem? (i := 18) rfl)
theorem aw_659 : Cond.methodLink RL 76 yX7_lamp ∈ AL := ia_A16 _ (List.mem_of_getElem? (i := 19) rfl)
theorem aw_660 : Cond.instanceMethod yX7_lamp ∈ AL := ia_A16 _ (List.mem_of_getElem? (i := 20) rfl)
theorem aw_661 : Cond.selects RX7 yX7_lamp yX7_lamp ∈ AL := ia_A16 _ (List.mem_of_getElem? (i := 21) rfl)
theorem aw_662 : Cond.code yX7_lamp cX7_lamp 9 (some .int) ∈ AL := ia_A16 _ (List.mem_of_getElem? (i := 22) rfl)
theorem aw_663 : Cond.methodLink RL 77 yX7_thrown ∈ AL := ia_A16 _ (List.mem_of_getElem? (i := 23) rfl)
theorem aw_664 : Cond.instanceMethod yX7_thrown ∈ AL := ia_A16 _ (List.mem_of_getElem? (i := 24) rfl)
theorem aw_665 : Cond.selects RX7 yX7_thrown yX7_thrown ∈ AL := ia_A16 _ (List.mem_of_getElem? (i := 25) rfl)
theorem aw_666 : Cond.code yX7_thrown cX7_thrown 1 (some .int) ∈ AL := ia_A16 _ (List.mem_of_getElem? (i := 26) rfl)
theorem aw_667 : Cond.methodLink RL 81 yL_feed ∈ AL := ia_A16 _ (List.mem_of_getElem? (i := 27) rfl)
theorem aw_668 : Cond.static yL_feed ∈ AL := ia_A16 _ (List.mem_of_getElem? (i := 28) rfl)
theorem aw_669 : Cond.codeWith yL_feed cL_feed 8 (some .int) [(0, 16, 19, 15)] ∈ AL := ia_A16 _ (List.mem_of_getElem? (i := 29) rfl)
theorem aw_670 : Cond.methodLink RL 84 yX7_feed ∈ AL := ia_A16 _ (List.mem_of_getElem? (i := 30) rfl)
theorem aw_671 : Cond.instanceMethod yX7_feed ∈ AL := ia_A16 _ (List.mem_of_getElem? (i := 31) rfl)
theorem aw_672 : Cond.selects RX7 yX7_feed yX7_feed ∈ AL := ia_A16 _ (List.mem_of_getElem? (i := 32) rfl)
theorem aw_673 : Cond.code yX7_feed cX7_feed 8 (some .int) ∈ AL := ia_A16 _ (List.mem_of_getElem? (i := 33) rfl)
theorem aw_674 : Cond.methodLink RL 85 yL_end ∈ AL := ia_A16 _ (List.mem_of_getElem? (i := 34) rfl)
theorem aw_675 : Cond.static yL_end ∈ AL := ia_A16 _ (List.mem_of_getElem? (i := 35) rfl)
theorem aw_676 : Cond.codeWith yL_end cL_end 3 (some .int) [(0, 5, 8, 13)] ∈ AL := ia_A16 _ (List.mem_of_getElem? (i := 36) rfl)
theorem aw_677 : Cond.methodLink RL 88 yX7_end ∈ AL := ia_A16 _ (List.mem_of_getElem? (i := 37) rfl)
theorem aw_678 : Cond.instanceMethod yX7_end ∈ AL := ia_A16 _ (List.mem_of_getElem? (i := 38) rfl)
theorem aw_679 : Cond.selects RX7 yX7_end yX7_end ∈ AL := ia_A16 _ (List.mem_of_getElem? (i := 39) rfl)
theorem aw_680 : Cond.code yX7_end cX7_end 2 none ∈ AL := ia_A17 _ (List.mem_of_getElem? (i := 0) rfl)
theorem aw_681 : Cond.methodLink RL 89 yX6_send ∈ AL := ia_A17 _ (List.mem_of_getElem? (i := 1) rfl)
theorem aw_682 : Cond.instanceMethod yX6_send ∈ AL := ia_A17 _ (List.mem_of_getElem? (i := 2) rfl)
theorem aw_683 : Cond.selects RX6 yX6_send yX6_send ∈ AL := ia_A17 _ (List.mem_of_getElem? (i := 3) rfl)
theorem aw_684 : Cond.code yX6_send cX6_send 1 (some .int) ∈ AL := ia_A17 _ (List.mem_of_getElem? (i := 4) rfl)
theorem aw_685 : Cond.methodLink RL 92 yX7_send ∈ AL := ia_A17 _ (List.mem_of_getElem? (i := 5) rfl)
theorem aw_686 : Cond.instanceMethod yX7_send ∈ AL := ia_A17 _ (List.mem_of_getElem? (i := 6) rfl)
theorem aw_687 : Cond.selects RX7 yX7_send yX7_send ∈ AL := ia_A17 _ (List.mem_of_getElem? (i := 7) rfl)
theorem aw_688 : Cond.code yX7_send cX7_send 2 (some .int) ∈ AL := ia_A17 _ (List.mem_of_getElem? (i := 8) rfl)
theorem aw_689 : Cond.methodLink RL 93 yL_answer ∈ AL := ia_A17 _ (List.mem_of_getElem? (i := 9) rfl)
theorem aw_690 : Cond.static yL_answer ∈ AL := ia_A17 _ (List.mem_of_getElem? (i := 10) rfl)
theorem aw_691 : Cond.codeWith yL_answer cL_answer 4 (some .int) [(0, 9, 12, 29)] ∈ AL := ia_A17 _ (List.mem_of_getElem? (i := 11) rfl)
theorem aw_692 : Cond.methodLink RL 96 yX7_answer ∈ AL := ia_A17 _ (List.mem_of_getElem? (i := 12) rfl)
theorem aw_693 : Cond.instanceMethod yX7_answer ∈ AL := ia_A17 _ (List.mem_of_getElem? (i := 13) rfl)
theorem aw_694 : Cond.selects RX7 yX7_answer yX7_answer ∈ AL := ia_A17 _ (List.mem_of_getElem? (i := 14) rfl)
theorem aw_695 : Cond.code yX7_answer cX7_answer 2 (some .int) ∈ AL := ia_A17 _ (List.mem_of_getElem? (i := 15) rfl)
theorem aw_696 : Cond.methodLink RL 97 yL_ask ∈ AL := ia_A17 _ (List.mem_of_getElem? (i := 16) rfl)
theorem aw_697 : Cond.static yL_ask ∈ AL := ia_A17 _ (List.mem_of_getElem? (i := 17) rfl)
theorem aw_698 : Cond.codeWith yL_ask cL_ask 9 (some .int) [(0, 17, 20, 13)] ∈ AL := ia_A17 _ (List.mem_of_getElem? (i := 18) rfl)
theorem aw_699 : Cond.methodLink RL 99 yX7_ask ∈ AL := ia_A17 _ (List.mem_of_getElem? (i := 19) rfl)
theorem aw_700 : Cond.instanceMethod yX7_ask ∈ AL := ia_A17 _ (List.mem_of_getElem? (i := 20) rfl)
theorem aw_701 : Cond.selects RX7 yX7_ask yX7_ask ∈ AL := ia_A17 _ (List.mem_of_getElem? (i := 21) rfl)
theorem aw_702 : Cond.code yX7_ask cX7_ask 8 (some .int) ∈ AL := ia_A17 _ (List.mem_of_getElem? (i := 22) rfl)
theorem aw_703 : Cond.methodLink RL 100 yL_spoil ∈ AL := ia_A17 _ (List.mem_of_getElem? (i := 23) rfl)
theorem aw_704 : Cond.static yL_spoil ∈ AL := ia_A17 _ (List.mem_of_getElem? (i := 24) rfl)
theorem aw_705 : Cond.codeWith yL_spoil cL_spoil 4 (some .int) [(0, 6, 9, 13)] ∈ AL := ia_A17 _ (List.mem_of_getElem? (i := 25) rfl)
theorem aw_706 : Cond.methodLink RL 103 yX7_spoil ∈ AL := ia_A17 _ (List.mem_of_getElem? (i := 26) rfl)
theorem aw_707 : Cond.instanceMethod yX7_spoil ∈ AL := ia_A17 _ (List.mem_of_getElem? (i := 27) rfl)
theorem aw_708 : Cond.selects RX7 yX7_spoil yX7_spoil ∈ AL := ia_A17 _ (List.mem_of_getElem? (i := 28) rfl)
theorem aw_709 : Cond.code yX7_spoil cX7_spoil 4 none ∈ AL := ia_A17 _ (List.mem_of_getElem? (i := 29) rfl)
theorem aw_710 : Cond.methodLink RL 104 yX6_frames ∈ AL := ia_A17 _ (List.mem_of_getElem? (i := 30) rfl)
theorem aw_711 : Cond.instanceMethod yX6_frames ∈ AL := ia_A17 _ (List.mem_of_getElem? (i := 31) rfl)
theorem aw_712 : Cond.selects RX6 yX6_frames yX6_frames ∈ AL := ia_A17 _ (List.mem_of_getElem? (i := 32) rfl)
theorem aw_713 : Cond.code yX6_frames cX6_frames 1 (some .int) ∈ AL := ia_A17 _ (List.mem_of_getElem? (i := 33) rfl)
theorem aw_714 : Cond.methodLink RL 107 yX7_frames ∈ AL := ia_A17 _ (List.mem_of_getElem? (i := 34) rfl)
theorem aw_715 : Cond.instanceMethod yX7_frames ∈ AL := ia_A17 _ (List.mem_of_getElem? (i := 35) rfl)
theorem aw_716 : Cond.selects RX7 yX7_frames yX7_frames ∈ AL := ia_A17 _ (List.mem_of_getElem? (i := 36) rfl)
theorem aw_717 : Cond.code yX7_frames cX7_frames 1 (some .int) ∈ AL := ia_A17 _ (List.mem_of_getElem? (i := 37) rfl)
theorem aw_718 : Cond.methodLink RL 108 yL_about ∈ AL := ia_A17 _ (List.mem_of_getElem? (i := 38) rfl)
theorem aw_719 : Cond.static yL_about ∈ AL := ia_A17 _ (List.mem_of_getElem? (i := 39) rfl)
theorem aw_720 : Cond.codeWith yL_about cL_about 5 (some .int) [(0, 10, 13, 29)] ∈ AL := ia_A18 _ (List.mem_of_getElem? (i := 0) rfl)
theorem aw_721 : Cond.methodLink RL 111 yX7_about ∈ AL := ia_A18 _ (List.mem_of_getElem? (i := 1) rfl)
theorem aw_722 : Cond.instanceMethod yX7_about ∈ AL := ia_A18 _ (List.mem_of_getElem? (i := 2) rfl)
theorem aw_723 : Cond.selects RX7 yX7_about yX7_about ∈ AL := ia_A18 _ (List.mem_of_getElem? (i := 3) rfl)
theorem aw_724 : Cond.code yX7_about cX7_about 3 (some .int) ∈ AL := ia_A18 _ (List.mem_of_getElem? (i := 4) rfl)
theorem aw_725 : Cond.methodLink RL 112 yL_rest ∈ AL := ia_A18 _ (List.mem_of_getElem? (i := 5) rfl)
theorem aw_726 : Cond.static yL_rest ∈ AL := ia_A18 _ (List.mem_of_getElem? (i := 6) rfl)
theorem aw_727 : Cond.codeWith yL_rest cL_rest 4 (some .int) [(0, 8, 11, 29)] ∈ AL := ia_A18 _ (List.mem_of_getElem? (i := 7) rfl)
theorem aw_728 : Cond.methodLink RL 114 yX7_rest ∈ AL := ia_A18 _ (List.mem_of_getElem? (i := 8) rfl)
theorem aw_729 : Cond.instanceMethod yX7_rest ∈ AL := ia_A18 _ (List.mem_of_getElem? (i := 9) rfl)
theorem aw_730 : Cond.selects RX7 yX7_rest yX7_rest ∈ AL := ia_A18 _ (List.mem_of_getElem? (i := 10) rfl)
theorem aw_731 : Cond.code yX7_rest cX7_rest 2 (some .long) ∈ AL := ia_A18 _ (List.mem_of_getElem? (i := 11) rfl)
theorem aw_732 : Cond.methodLink RL 115 yL_level ∈ AL := ia_A18 _ (List.mem_of_getElem? (i := 12) rfl)
theorem aw_733 : Cond.static yL_level ∈ AL := ia_A18 _ (List.mem_of_getElem? (i := 13) rfl)
theorem aw_734 : Cond.codeWith yL_level cL_level 5 (some .int) [(0, 10, 13, 29)] ∈ AL := ia_A18 _ (List.mem_of_getElem? (i := 14) rfl)
theorem aw_735 : Cond.methodLink RL 117 yX7_level ∈ AL := ia_A18 _ (List.mem_of_getElem? (i := 15) rfl)
theorem aw_736 : Cond.instanceMethod yX7_level ∈ AL := ia_A18 _ (List.mem_of_getElem? (i := 16) rfl)
theorem aw_737 : Cond.selects RX7 yX7_level yX7_level ∈ AL := ia_A18 _ (List.mem_of_getElem? (i := 17) rfl)
theorem aw_738 : Cond.code yX7_level cX7_level 3 (some .int) ∈ AL := ia_A18 _ (List.mem_of_getElem? (i := 18) rfl)
theorem aw_739 : Cond.methodLink RL 118 yL_label ∈ AL := ia_A18 _ (List.mem_of_getElem? (i := 19) rfl)
theorem aw_740 : Cond.static yL_label ∈ AL := ia_A18 _ (List.mem_of_getElem? (i := 20) rfl)
theorem aw_741 : Cond.codeWith yL_label cL_label 5 (some .int) [(0, 10, 13, 29)] ∈ AL := ia_A18 _ (List.mem_of_getElem? (i := 21) rfl)
theorem aw_742 : Cond.methodLink RL 120 yX7_label ∈ AL := ia_A18 _ (List.mem_of_getElem? (i := 22) rfl)
theorem aw_743 : Cond.instanceMethod yX7_label ∈ AL := ia_A18 _ (List.mem_of_getElem? (i := 23) rfl)
theorem aw_744 : Cond.selects RX7 yX7_label yX7_label ∈ AL := ia_A18 _ (List.mem_of_getElem? (i := 24) rfl)
theorem aw_745 : Cond.code yX7_label cX7_label 3 (some .int) ∈ AL := ia_A18 _ (List.mem_of_getElem? (i := 25) rfl)
theorem aw_746 : Cond.methodLink RL 121 yL_silence ∈ AL := ia_A18 _ (List.mem_of_getElem? (i := 26) rfl)
theorem aw_747 : Cond.static yL_silence ∈ AL := ia_A18 _ (List.mem_of_getElem? (i := 27) rfl)
theorem aw_748 : Cond.codeWith yL_silence cL_silence 5 (some .int) [(0, 10, 13, 29)] ∈ AL := ia_A18 _ (List.mem_of_getElem? (i := 28) rfl)
theorem aw_749 : Cond.methodLink RL 124 yX7_silence ∈ AL := ia_A18 _ (List.mem_of_getElem? (i := 29) rfl)
theorem aw_750 : Cond.instanceMethod yX7_silence ∈ AL := ia_A18 _ (List.mem_of_getElem? (i := 30) rfl)
theorem aw_751 : Cond.selects RX7 yX7_silence yX7_silence ∈ AL := ia_A18 _ (List.mem_of_getElem? (i := 31) rfl)
theorem aw_752 : Cond.code yX7_silence cX7_silence 4 (some .int) ∈ AL := ia_A18 _ (List.mem_of_getElem? (i := 32) rfl)
theorem aw_753 : Cond.methodLink RL 125 yX6_search ∈ AL := ia_A18 _ (List.mem_of_getElem? (i := 33) rfl)
theorem aw_754 : Cond.instanceMethod yX6_search ∈ AL := ia_A18 _ (List.mem_of_getElem? (i := 34) rfl)
theorem aw_755 : Cond.selects RX6 yX6_search yX6_search ∈ AL := ia_A18 _ (List.mem_of_getElem? (i := 35) rfl)
theorem aw_756 : Cond.code yX6_search cX6_search 1 (some .int) ∈ AL := ia_A18 _ (List.mem_of_getElem? (i := 36) rfl)
theorem aw_757 : Cond.methodLink RL 128 yX7_search ∈ AL := ia_A18 _ (List.mem_of_getElem? (i := 37) rfl)
theorem aw_758 : Cond.instanceMethod yX7_search ∈ AL := ia_A18 _ (List.mem_of_getElem? (i := 38) rfl)
theorem aw_759 : Cond.selects RX7 yX7_search yX7_search ∈ AL := ia_A18 _ (List.mem_of_getElem? (i := 39) rfl)
theorem aw_760 : Cond.code yX7_search cX7_search 1 (some .int) ∈ AL := ia_A19 _ (List.mem_of_getElem? (i := 0) rfl)
theorem aw_761 : Cond.methodLink RL 129 yL_step ∈ AL := ia_A19 _ (List.mem_of_getElem? (i := 1) rfl)
theorem aw_762 : Cond.static yL_step ∈ AL := ia_A19 _ (List.mem_of_getElem? (i := 2) rfl)
theorem aw_763 : Cond.codeWith yL_step cL_step 4 (some .int) [(0, 9, 12, 15), (0, 9, 15, 13)] ∈ AL := ia_A19 _ (List.mem_of_getElem? (i := 3) rfl)
theorem aw_764 : Cond.methodLink RL 131 yX7_step ∈ AL := ia_A19 _ (List.mem_of_getElem? (i := 4) rfl)
theorem aw_765 : Cond.instanceMethod yX7_step ∈ AL := ia_A19 _ (List.mem_of_getElem? (i := 5) rfl)
theorem aw_766 : Cond.selects RX7 yX7_step yX7_step ∈ AL := ia_A19 _ (List.mem_of_getElem? (i := 6) rfl)
theorem aw_767 : Cond.code yX7_step cX7_step 3 (some .int) ∈ AL := ia_A19 _ (List.mem_of_getElem? (i := 7) rfl)
theorem aw_768 : Cond.methodLink RL 132 yX6_found ∈ AL := ia_A19 _ (List.mem_of_getElem? (i := 8) rfl)
theorem aw_769 : Cond.instanceMethod yX6_found ∈ AL := ia_A19 _ (List.mem_of_getElem? (i := 9) rfl)
theorem aw_770 : Cond.selects RX6 yX6_found yX6_found ∈ AL := ia_A19 _ (List.mem_of_getElem? (i := 10) rfl)
theorem aw_771 : Cond.code yX6_found cX6_found 1 (some .int) ∈ AL := ia_A19 _ (List.mem_of_getElem? (i := 11) rfl)
theorem aw_772 : Cond.methodLink RL 135 yX7_found ∈ AL := ia_A19 _ (List.mem_of_getElem? (i := 12) rfl)
theorem aw_773 : Cond.instanceMethod yX7_found ∈ AL := ia_A19 _ (List.mem_of_getElem? (i := 13) rfl)
theorem aw_774 : Cond.selects RX7 yX7_found yX7_found ∈ AL := ia_A19 _ (List.mem_of_getElem? (i := 14) rfl)
theorem aw_775 : Cond.code yX7_found cX7_found 1 (some .int) ∈ AL := ia_A19 _ (List.mem_of_getElem? (i := 15) rfl)
theorem aw_776 : Cond.methodLink RL 136 yL_id ∈ AL := ia_A19 _ (List.mem_of_getElem? (i := 16) rfl)
theorem aw_777 : Cond.static yL_id ∈ AL := ia_A19 _ (List.mem_of_getElem? (i := 17) rfl)
theorem aw_778 : Cond.codeWith yL_id cL_id 4 (some .int) [(0, 8, 11, 29)] ∈ AL := ia_A19 _ (List.mem_of_getElem? (i := 18) rfl)
theorem aw_779 : Cond.methodLink RL 138 yX7_id ∈ AL := ia_A19 _ (List.mem_of_getElem? (i := 19) rfl)
theorem aw_780 : Cond.instanceMethod yX7_id ∈ AL := ia_A19 _ (List.mem_of_getElem? (i := 20) rfl)
theorem aw_781 : Cond.selects RX7 yX7_id yX7_id ∈ AL := ia_A19 _ (List.mem_of_getElem? (i := 21) rfl)
theorem aw_782 : Cond.code yX7_id cX7_id 2 (some .long) ∈ AL := ia_A19 _ (List.mem_of_getElem? (i := 22) rfl)
theorem aw_783 : Cond.methodLink RL 139 yL_branch ∈ AL := ia_A19 _ (List.mem_of_getElem? (i := 23) rfl)
theorem aw_784 : Cond.static yL_branch ∈ AL := ia_A19 _ (List.mem_of_getElem? (i := 24) rfl)
theorem aw_785 : Cond.codeWith yL_branch cL_branch 4 (some .int) [(0, 8, 11, 29)] ∈ AL := ia_A19 _ (List.mem_of_getElem? (i := 25) rfl)
theorem aw_786 : Cond.methodLink RL 141 yX7_branch ∈ AL := ia_A19 _ (List.mem_of_getElem? (i := 26) rfl)
theorem aw_787 : Cond.instanceMethod yX7_branch ∈ AL := ia_A19 _ (List.mem_of_getElem? (i := 27) rfl)
theorem aw_788 : Cond.selects RX7 yX7_branch yX7_branch ∈ AL := ia_A19 _ (List.mem_of_getElem? (i := 28) rfl)
theorem aw_789 : Cond.code yX7_branch cX7_branch 2 (some .long) ∈ AL := ia_A19 _ (List.mem_of_getElem? (i := 29) rfl)
theorem aw_790 : Cond.code yJ9_min_7cf53 cJ9_min_7cf53 2 (some .int) ∈ AL := ia_A19 _ (List.mem_of_getElem? (i := 30) rfl)
def zs_X3_cut : List Cond := .code yX3_cut cX3_cut 2 none :: AL
theorem gz_X3_cut : GoodIn AL zs_X3_cut := gz aw_7
def zs_X3_put : List Cond := .code yX3_put cX3_put 2 none :: AL
theorem gz_X3_put : GoodIn AL zs_X3_put := gz aw_11
def zs_X3_sum : List Cond := .code yX3_sum cX3_sum 5 (some .int) :: AL
theorem gz_X3_sum : GoodIn AL zs_X3_sum := gz aw_15
def zs_X3_size : List Cond := .code yX3_size cX3_size 1 (some .int) :: AL
theorem gz_X3_size : GoodIn AL zs_X3_size := gz aw_21
def zs_X3_at : List Cond := .code yX3_at cX3_at 2 (some .int) :: AL
theorem gz_X3_at : GoodIn AL zs_X3_at := gz aw_25
def zs_X3_init : List Cond := .code yX3_init cX3_init 2 none :: AL
theorem gz_X3_init : GoodIn AL zs_X3_init := gz aw_45
def zs_X6_makerOf : List Cond := .code yX6_makerOf cX6_makerOf 2 (some .int) :: AL
theorem gz_X6_makerOf : GoodIn AL zs_X6_makerOf := gz aw_53
def zs_X1_footprint : List Cond := .code yX1_footprint cX1_footprint 1 (some .int) :: AL
theorem gz_X1_footprint : GoodIn AL zs_X1_footprint := gz aw_58
def zs_X6_flag : List Cond := .code yX6_flag cX6_flag 1 (some .int) :: AL
theorem gz_X6_flag : GoodIn AL zs_X6_flag := gz aw_60
def zs_X1_isDark : List Cond := .code yX1_isDark cX1_isDark 2 (some .boolean) :: AL
theorem gz_X1_isDark : GoodIn AL zs_X1_isDark := gz aw_64
def zs_X3_copyFrom : List Cond := .code yX3_copyFrom cX3_copyFrom 3 none :: AL
theorem gz_X3_copyFrom : GoodIn AL zs_X3_copyFrom := gz aw_70
def zs_X6_restOf : List Cond := .code yX6_restOf cX6_restOf 2 (some .long) :: AL
theorem gz_X6_restOf : GoodIn AL zs_X6_restOf := gz aw_80
def zs_X3_putNumber : List Cond := .code yX3_putNumber cX3_putNumber 5 none :: AL
theorem gz_X3_putNumber : GoodIn AL zs_X3_putNumber := gz aw_98
def zs_X3_number : List Cond := .code yX3_number cX3_number 6 (some .long) :: AL
theorem gz_X3_number : GoodIn AL zs_X3_number := gz aw_104
def zs_X0_write : List Cond := .code yX0_write cX0_write 5 none :: AL
theorem gz_X0_write : GoodIn AL zs_X0_write := gz aw_108
def zs_X2_isCall : List Cond := .code yX2_isCall cX2_isCall 1 (some .boolean) :: AL
theorem gz_X2_isCall : GoodIn AL zs_X2_isCall := gz aw_113
def zs_X2_beginReply : List Cond := .code yX2_beginReply cX2_beginReply 4 none :: AL
theorem gz_X2_beginReply : GoodIn AL zs_X2_beginReply := gz aw_117
def zs_X2_writeTo : List Cond := .code yX2_writeTo cX2_writeTo 4 none :: AL
theorem gz_X2_writeTo : GoodIn AL zs_X2_writeTo := gz aw_122
def zs_X1_isKnown : List Cond := .code yX1_isKnown cX1_isKnown 2 (some .boolean) :: AL
theorem gz_X1_isKnown : GoodIn AL zs_X1_isKnown := gz aw_126
def zs_X6_fits : List Cond := .code yX6_fits cX6_fits 2 (some .boolean) :: AL
theorem gz_X6_fits : GoodIn AL zs_X6_fits := gz aw_128
def zs_X1_formRefusal : List Cond := .code yX1_formRefusal cX1_formRefusal 4 (some .int) :: AL
theorem gz_X1_formRefusal : GoodIn AL zs_X1_formRefusal := gz aw_133
def zs_X1_valueRefusal : List Cond := .code yX1_valueRefusal cX1_valueRefusal 6 (some .int) :: AL
theorem gz_X1_valueRefusal : GoodIn AL zs_X1_valueRefusal := gz aw_137
def zs_X2_refuse : List Cond := .code yX2_refuse cX2_refuse 2 none :: AL
theorem gz_X2_refuse : GoodIn AL zs_X2_refuse := gz aw_141
def zs_X1_obey : List Cond := .code yX1_obey cX1_obey 7 none :: AL
theorem gz_X1_obey : GoodIn AL zs_X1_obey := gz aw_145
def zs_X1_tell : List Cond := .code yX1_tell cX1_tell 6 none :: AL
theorem gz_X1_tell : GoodIn AL zs_X1_tell := gz aw_149
def zs_X1_speaksToSearch : List Cond := .code yX1_speaksToSearch cX1_speaksToSearch 5 (some .boolean) :: AL
theorem gz_X1_speaksToSearch : GoodIn AL zs_X1_speaksToSearch := gz aw_153
def zs_X1_speaksToOrder : List Cond := .code yX1_speaksToOrder cX1_speaksToOrder 8 (some .boolean) :: AL
theorem gz_X1_speaksToOrder : GoodIn AL zs_X1_speaksToOrder := gz aw_157
def zs_X4_pile : List Cond := .code yX4_pile cX4_pile 5 none :: AL
theorem gz_X4_pile : GoodIn AL zs_X4_pile := gz aw_176
def zs_X4_hasFound : List Cond := .code yX4_hasFound cX4_hasFound 4 (some .boolean) :: AL
theorem gz_X4_hasFound : GoodIn AL zs_X4_hasFound := gz aw_181
def zs_X5_dropFirst : List Cond := .code yX5_dropFirst cX5_dropFirst 2 none :: AL
theorem gz_X5_dropFirst : GoodIn AL zs_X5_dropFirst := gz aw_190
def zs_X3_flip : List Cond := .code yX3_flip cX3_flip 3 none :: AL
theorem gz_X3_flip : GoodIn AL zs_X3_flip := gz aw_194
def zs_X2_init : List Cond := .code yX2_init cX2_init 1 none :: AL
theorem gz_X2_init : GoodIn AL zs_X2_init := gz aw_216
def zs_X5_init : List Cond := .code yX5_init cX5_init 1 none :: AL
theorem gz_X5_init : GoodIn AL zs_X5_init := gz aw_218
def zs_X4_init : List Cond := .code yX4_init cX4_init 1 none :: AL
theorem gz_X4_init : GoodIn AL zs_X4_init := gz aw_220
def zs_X6_joinedId : List Cond := .code yX6_joinedId cX6_joinedId 3 (some .long) :: AL
theorem gz_X6_joinedId : GoodIn AL zs_X6_joinedId := gz aw_230
def zs_X6_isThere : List Cond := .code yX6_isThere cX6_isThere 4 (some .boolean) :: AL
theorem gz_X6_isThere : GoodIn AL zs_X6_isThere := gz aw_234
def zs_X1_init : List Cond := .code yX1_init cX1_init 7 none :: AL
theorem gz_X1_init : GoodIn AL zs_X1_init := gz aw_237
def zs_X2_readFrom : List Cond := .code yX2_readFrom cX2_readFrom 4 (some .boolean) :: AL
theorem gz_X2_readFrom : GoodIn AL zs_X2_readFrom := gz aw_246
def zs_X1_ripen : List Cond := .code yX1_ripen cX1_ripen 3 none :: AL
theorem gz_X1_ripen : GoodIn AL zs_X1_ripen := gz aw_250
def zs_X1_shine : List Cond := .code yX1_shine cX1_shine 5 none :: AL
theorem gz_X1_shine : GoodIn AL zs_X1_shine := gz aw_254
def zs_X1_isMeantBy : List Cond := .code yX1_isMeantBy cX1_isMeantBy 3 (some .boolean) :: AL
theorem gz_X1_isMeantBy : GoodIn AL zs_X1_isMeantBy := gz aw_258
def zs_X1_speaksTo : List Cond := .code yX1_speaksTo cX1_speaksTo 5 (some .boolean) :: AL
theorem gz_X1_speaksTo : GoodIn AL zs_X1_speaksTo := gz aw_262
def zs_X3_join : List Cond := .code yX3_join cX3_join 3 none :: AL
theorem gz_X3_join : GoodIn AL zs_X3_join := gz aw_266
def zs_X5_applyTo : List Cond := .code yX5_applyTo cX5_applyTo 3 none :: AL
theorem gz_X5_applyTo : GoodIn AL zs_X5_applyTo := gz aw_270
def zs_X6_runFrame : List Cond := .code yX6_runFrame cX6_runFrame 5 none :: AL
theorem gz_X6_runFrame : GoodIn AL zs_X6_runFrame := gz aw_275
def zs_X6_beginQuestion : List Cond := .code yX6_beginQuestion cX6_beginQuestion 5 none :: AL
theorem gz_X6_beginQuestion : GoodIn AL zs_X6_beginQuestion := gz aw_284
def zs_X6_isReplyFrom : List Cond := .code yX6_isReplyFrom cX6_isReplyFrom 3 (some .boolean) :: AL
theorem gz_X6_isReplyFrom : GoodIn AL zs_X6_isReplyFrom := gz aw_289
def zs_X5_add : List Cond := .code yX5_add cX5_add 3 none :: AL
theorem gz_X5_add : GoodIn AL zs_X5_add := gz aw_293
def zs_X6_lampAt : List Cond := .code yX6_lampAt cX6_lampAt 2 (some (.object "LampLine$Lamp")) :: AL
theorem gz_X6_lampAt : GoodIn AL zs_X6_lampAt := gz aw_297
def zs_X1_fact : List Cond := .code yX1_fact cX1_fact 3 (some .int) :: AL
theorem gz_X1_fact : GoodIn AL zs_X1_fact := gz aw_301
def zs_X1_levelAt : List Cond := .code yX1_levelAt cX1_levelAt 2 (some .int) :: AL
theorem gz_X1_levelAt : GoodIn AL zs_X1_levelAt := gz aw_307
def zs_X4_begin : List Cond := .code yX4_begin cX4_begin 1 none :: AL
theorem gz_X4_begin : GoodIn AL zs_X4_begin := gz aw_313
def zs_X6_writeSearch : List Cond := .code yX6_writeSearch cX6_writeSearch 4 none :: AL
theorem gz_X6_writeSearch : GoodIn AL zs_X6_writeSearch := gz aw_317
def zs_X4_keepFound : List Cond := .code yX4_keepFound cX4_keepFound 3 none :: AL
theorem gz_X4_keepFound : GoodIn AL zs_X4_keepFound := gz aw_321
def zs_X4_latestLow : List Cond := .code yX4_latestLow cX4_latestLow 1 (some .long) :: AL
theorem gz_X4_latestLow : GoodIn AL zs_X4_latestLow := gz aw_325
def zs_X4_latestHigh : List Cond := .code yX4_latestHigh cX4_latestHigh 1 (some .long) :: AL
theorem gz_X4_latestHigh : GoodIn AL zs_X4_latestHigh := gz aw_329
def zs_X4_takeLatest : List Cond := .code yX4_takeLatest cX4_takeLatest 1 none :: AL
theorem gz_X4_takeLatest : GoodIn AL zs_X4_takeLatest := gz aw_333
def zs_X6_tryId : List Cond := .code yX6_tryId cX6_tryId 3 (some .int) :: AL
theorem gz_X6_tryId : GoodIn AL zs_X6_tryId := gz aw_337
def zs_X6_writeBranchSearch : List Cond := .code yX6_writeBranchSearch cX6_writeBranchSearch 5 none :: AL
theorem gz_X6_writeBranchSearch : GoodIn AL zs_X6_writeBranchSearch := gz aw_342
def zs_X0_read : List Cond := .code yX0_read cX0_read 6 (some .long) :: AL
theorem gz_X0_read : GoodIn AL zs_X0_read := gz aw_345
def zs_X6_takeStep : List Cond := .code yX6_takeStep cX6_takeStep 10 none :: AL
theorem gz_X6_takeStep : GoodIn AL zs_X6_takeStep := gz aw_350
def zs_X7_idOf : List Cond := .code yX7_idOf cX7_idOf 3 (some .long) :: AL
theorem gz_X7_idOf : GoodIn AL zs_X7_idOf := gz aw_383
def zs_X7_in : List Cond := .code yX7_in cX7_in 6 (some .boolean) :: AL
theorem gz_X7_in : GoodIn AL zs_X7_in := gz aw_392
def zs_X7_goes : List Cond := .code yX7_goes cX7_goes 2 (some .boolean) :: AL
theorem gz_X7_goes : GoodIn AL zs_X7_goes := gz aw_397
def zs_X7_at : List Cond := .code yX7_at cX7_at 2 (some .int) :: AL
theorem gz_X7_at : GoodIn AL zs_X7_at := gz aw_401
def zs_X7_footprint : List Cond := .code yX7_footprint cX7_footprint 2 (some .int) :: AL
theorem gz_X7_footprint : GoodIn AL zs_X7_footprint := gz aw_408
def zs_X7_two : List Cond := .code yX7_two cX7_two 2 (some .int) :: AL
theorem gz_X7_two : GoodIn AL zs_X7_two := gz aw_413
def zs_X7_put : List Cond := .code yX7_put cX7_put 2 none :: AL
theorem gz_X7_put : GoodIn AL zs_X7_put := gz aw_418
def zs_X7_ownId : List Cond := .code yX7_ownId cX7_ownId 2 (some .long) :: AL
theorem gz_X7_ownId : GoodIn AL zs_X7_ownId := gz aw_422
def zs_X7_putId : List Cond := .code yX7_putId cX7_putId 4 none :: AL
theorem gz_X7_putId : GoodIn AL zs_X7_putId := gz aw_426
def zs_X7_putTwo : List Cond := .code yX7_putTwo cX7_putTwo 2 none :: AL
theorem gz_X7_putTwo : GoodIn AL zs_X7_putTwo := gz aw_430
def zs_X7_waiting : List Cond := .code yX7_waiting cX7_waiting 4 (some .int) :: AL
theorem gz_X7_waiting : GoodIn AL zs_X7_waiting := gz aw_434
def zs_X7_six : List Cond := .code yX7_six cX7_six 5 (some .long) :: AL
theorem gz_X7_six : GoodIn AL zs_X7_six := gz aw_438
def zs_X7_show : List Cond := .code yX7_show cX7_show 6 none :: AL
theorem gz_X7_show : GoodIn AL zs_X7_show := gz aw_442
def zs_X7_begin : List Cond := .code yX7_begin cX7_begin 6 none :: AL
theorem gz_X7_begin : GoodIn AL zs_X7_begin := gz aw_446
def zs_X7_finish : List Cond := .code yX7_finish cX7_finish 4 none :: AL
theorem gz_X7_finish : GoodIn AL zs_X7_finish := gz aw_450
def zs_X7_refuse : List Cond := .code yX7_refuse cX7_refuse 4 none :: AL
theorem gz_X7_refuse : GoodIn AL zs_X7_refuse := gz aw_454
def zs_X7_isMatter : List Cond := .code yX7_isMatter cX7_isMatter 1 (some .boolean) :: AL
theorem gz_X7_isMatter : GoodIn AL zs_X7_isMatter := gz aw_457
def zs_X7_getWaiting : List Cond := .code yX7_getWaiting cX7_getWaiting 6 none :: AL
theorem gz_X7_getWaiting : GoodIn AL zs_X7_getWaiting := gz aw_461
def zs_X7_tell : List Cond := .code yX7_tell cX7_tell 5 none :: AL
theorem gz_X7_tell : GoodIn AL zs_X7_tell := gz aw_465
def zs_X7_mayBe : List Cond := .code yX7_mayBe cX7_mayBe 6 (some .boolean) :: AL
theorem gz_X7_mayBe : GoodIn AL zs_X7_mayBe := gz aw_472
def zs_X7_setLabel : List Cond := .code yX7_setLabel cX7_setLabel 6 none :: AL
theorem gz_X7_setLabel : GoodIn AL zs_X7_setLabel := gz aw_476
def zs_X7_hearSearch : List Cond := .code yX7_hearSearch cX7_hearSearch 7 none :: AL
theorem gz_X7_hearSearch : GoodIn AL zs_X7_hearSearch := gz aw_480
def zs_X7_get : List Cond := .code yX7_get cX7_get 3 none :: AL
theorem gz_X7_get : GoodIn AL zs_X7_get := gz aw_484
def zs_X7_set : List Cond := .code yX7_set cX7_set 6 none :: AL
theorem gz_X7_set : GoodIn AL zs_X7_set := gz aw_488
def zs_X7_doDue : List Cond := .code yX7_doDue cX7_doDue 5 none :: AL
theorem gz_X7_doDue : GoodIn AL zs_X7_doDue := gz aw_496
def zs_X7_takeLevels : List Cond := .code yX7_takeLevels cX7_takeLevels 3 none :: AL
theorem gz_X7_takeLevels : GoodIn AL zs_X7_takeLevels := gz aw_500
def zs_X7_isPacket : List Cond := .code yX7_isPacket cX7_isPacket 3 (some .boolean) :: AL
theorem gz_X7_isPacket : GoodIn AL zs_X7_isPacket := gz aw_504
def zs_X7_hear : List Cond := .code yX7_hear cX7_hear 3 none :: AL
theorem gz_X7_hear : GoodIn AL zs_X7_hear := gz aw_508
def zs_X7_fall : List Cond := .code yX7_fall cX7_fall 2 none :: AL
theorem gz_X7_fall : GoodIn AL zs_X7_fall := gz aw_512
def zs_X7_look : List Cond := .code yX7_look cX7_look 6 none :: AL
theorem gz_X7_look : GoodIn AL zs_X7_look := gz aw_516
def zs_X7_write : List Cond := .code yX7_write cX7_write 2 none :: AL
theorem gz_X7_write : GoodIn AL zs_X7_write := gz aw_520
def zs_X7_writeSix : List Cond := .code yX7_writeSix cX7_writeSix 4 none :: AL
theorem gz_X7_writeSix : GoodIn AL zs_X7_writeSix := gz aw_525
def zs_X7_heard : List Cond := .code yX7_heard cX7_heard 2 (some .int) :: AL
theorem gz_X7_heard : GoodIn AL zs_X7_heard := gz aw_529
def zs_X7_heardSix : List Cond := .code yX7_heardSix cX7_heardSix 5 (some .long) :: AL
theorem gz_X7_heardSix : GoodIn AL zs_X7_heardSix := gz aw_533
def zs_X7_beginPacket : List Cond := .code yX7_beginPacket cX7_beginPacket 6 none :: AL
theorem gz_X7_beginPacket : GoodIn AL zs_X7_beginPacket := gz aw_538
def zs_X7_sendOff : List Cond := .code yX7_sendOff cX7_sendOff 3 none :: AL
theorem gz_X7_sendOff : GoodIn AL zs_X7_sendOff := gz aw_542
def zs_X7_isReply : List Cond := .code yX7_isReply cX7_isReply 5 (some .boolean) :: AL
theorem gz_X7_isReply : GoodIn AL zs_X7_isReply := gz aw_546
def zs_X7_isLamp : List Cond := .code yX7_isLamp cX7_isLamp 2 (some .boolean) :: AL
theorem gz_X7_isLamp : GoodIn AL zs_X7_isLamp := gz aw_552
def zs_X7_isFound : List Cond := .code yX7_isFound cX7_isFound 5 (some .boolean) :: AL
theorem gz_X7_isFound : GoodIn AL zs_X7_isFound := gz aw_562
def zs_X7_isId : List Cond := .code yX7_isId cX7_isId 2 (some .boolean) :: AL
theorem gz_X7_isId : GoodIn AL zs_X7_isId := gz aw_567
def zs_X7_tried : List Cond := .code yX7_tried cX7_tried 3 (some .int) :: AL
theorem gz_X7_tried : GoodIn AL zs_X7_tried := gz aw_571
def zs_X7_push : List Cond := .code yX7_push cX7_push 5 none :: AL
theorem gz_X7_push : GoodIn AL zs_X7_push := gz aw_575
def zs_X7_shown : List Cond := .code yX7_shown cX7_shown 8 (some .long) :: AL
theorem gz_X7_shown : GoodIn AL zs_X7_shown := gz aw_579
def zs_X7_stepOnce : List Cond := .code yX7_stepOnce cX7_stepOnce 9 none :: AL
theorem gz_X7_stepOnce : GoodIn AL zs_X7_stepOnce := gz aw_584
def zs_X6_lamp : List Cond := .code yX6_lamp cX6_lamp 9 (some .int) :: AL
theorem gz_X6_lamp : GoodIn AL zs_X6_lamp := gz aw_590
def zs_X6_feed : List Cond := .code yX6_feed cX6_feed 6 (some .int) :: AL
theorem gz_X6_feed : GoodIn AL zs_X6_feed := gz aw_594
def zs_X6_end : List Cond := .code yX6_end cX6_end 2 none :: AL
theorem gz_X6_end : GoodIn AL zs_X6_end := gz aw_598
def zs_X6_answer : List Cond := .code yX6_answer cX6_answer 2 (some .int) :: AL
theorem gz_X6_answer : GoodIn AL zs_X6_answer := gz aw_603
def zs_X6_ask : List Cond := .code yX6_ask cX6_ask 9 (some .int) :: AL
theorem gz_X6_ask : GoodIn AL zs_X6_ask := gz aw_607
def zs_X6_spoil : List Cond := .code yX6_spoil cX6_spoil 3 none :: AL
theorem gz_X6_spoil : GoodIn AL zs_X6_spoil := gz aw_611
def zs_X6_about : List Cond := .code yX6_about cX6_about 4 (some .int) :: AL
theorem gz_X6_about : GoodIn AL zs_X6_about := gz aw_615
def zs_X6_rest : List Cond := .code yX6_rest cX6_rest 2 (some .long) :: AL
theorem gz_X6_rest : GoodIn AL zs_X6_rest := gz aw_619
def zs_X6_level : List Cond := .code yX6_level cX6_level 4 (some .int) :: AL
theorem gz_X6_level : GoodIn AL zs_X6_level := gz aw_623
def zs_X6_label : List Cond := .code yX6_label cX6_label 4 (some .int) :: AL
theorem gz_X6_label : GoodIn AL zs_X6_label := gz aw_627
def zs_X6_silence : List Cond := .code yX6_silence cX6_silence 5 (some .int) :: AL
theorem gz_X6_silence : GoodIn AL zs_X6_silence := gz aw_631
def zs_X6_step : List Cond := .code yX6_step cX6_step 3 (some .int) :: AL
theorem gz_X6_step : GoodIn AL zs_X6_step := gz aw_635
def zs_X6_id : List Cond := .code yX6_id cX6_id 2 (some .long) :: AL
theorem gz_X6_id : GoodIn AL zs_X6_id := gz aw_639
def zs_X6_branch : List Cond := .code yX6_branch cX6_branch 2 (some .long) :: AL
theorem gz_X6_branch : GoodIn AL zs_X6_branch := gz aw_643
def zs_X6_init : List Cond := .code yX6_init cX6_init 1 none :: AL
theorem gz_X6_init : GoodIn AL zs_X6_init := gz aw_651
def zs_X7_init : List Cond := .code yX7_init cX7_init 1 none :: AL
theorem gz_X7_init : GoodIn AL zs_X7_init := gz aw_654
def zs_L_lamp : List Cond := .codeWith yL_lamp cL_lamp 9 (some .int) [(0, 17, 20, 13), (0, 17, 24, 15)] :: AL
theorem gz_L_lamp : GoodIn AL zs_L_lamp := gz aw_658
def zs_X7_lamp : List Cond := .code yX7_lamp cX7_lamp 9 (some .int) :: AL
theorem gz_X7_lamp : GoodIn AL zs_X7_lamp := gz aw_662
def zs_X7_thrown : List Cond := .code yX7_thrown cX7_thrown 1 (some .int) :: AL
theorem gz_X7_thrown : GoodIn AL zs_X7_thrown := gz aw_666
def zs_L_feed : List Cond := .codeWith yL_feed cL_feed 8 (some .int) [(0, 16, 19, 15)] :: AL
theorem gz_L_feed : GoodIn AL zs_L_feed := gz aw_669
def zs_X7_feed : List Cond := .code yX7_feed cX7_feed 8 (some .int) :: AL
theorem gz_X7_feed : GoodIn AL zs_X7_feed := gz aw_673
def zs_L_end : List Cond := .codeWith yL_end cL_end 3 (some .int) [(0, 5, 8, 13)] :: AL
theorem gz_L_end : GoodIn AL zs_L_end := gz aw_676
def zs_X7_end : List Cond := .code yX7_end cX7_end 2 none :: AL
theorem gz_X7_end : GoodIn AL zs_X7_end := gz aw_680
def zs_X6_send : List Cond := .code yX6_send cX6_send 1 (some .int) :: AL
theorem gz_X6_send : GoodIn AL zs_X6_send := gz aw_684
def zs_X7_send : List Cond := .code yX7_send cX7_send 2 (some .int) :: AL
theorem gz_X7_send : GoodIn AL zs_X7_send := gz aw_688
def zs_L_answer : List Cond := .codeWith yL_answer cL_answer 4 (some .int) [(0, 9, 12, 29)] :: AL
theorem gz_L_answer : GoodIn AL zs_L_answer := gz aw_691
def zs_X7_answer : List Cond := .code yX7_answer cX7_answer 2 (some .int) :: AL
theorem gz_X7_answer : GoodIn AL zs_X7_answer := gz aw_695
def zs_L_ask : List Cond := .codeWith yL_ask cL_ask 9 (some .int) [(0, 17, 20, 13)] :: AL
theorem gz_L_ask : GoodIn AL zs_L_ask := gz aw_698
def zs_X7_ask : List Cond := .code yX7_ask cX7_ask 8 (some .int) :: AL
theorem gz_X7_ask : GoodIn AL zs_X7_ask := gz aw_702
def zs_L_spoil : List Cond := .codeWith yL_spoil cL_spoil 4 (some .int) [(0, 6, 9, 13)] :: AL
theorem gz_L_spoil : GoodIn AL zs_L_spoil := gz aw_705
def zs_X7_spoil : List Cond := .code yX7_spoil cX7_spoil 4 none :: AL
theorem gz_X7_spoil : GoodIn AL zs_X7_spoil := gz aw_709
def zs_X6_frames : List Cond := .code yX6_frames cX6_frames 1 (some .int) :: AL
theorem gz_X6_frames : GoodIn AL zs_X6_frames := gz aw_713
def zs_X7_frames : List Cond := .code yX7_frames cX7_frames 1 (some .int) :: AL
theorem gz_X7_frames : GoodIn AL zs_X7_frames := gz aw_717
def zs_L_about : List Cond := .codeWith yL_about cL_about 5 (some .int) [(0, 10, 13, 29)] :: AL
theorem gz_L_about : GoodIn AL zs_L_about := gz aw_720
def zs_X7_about : List Cond := .code yX7_about cX7_about 3 (some .int) :: AL
theorem gz_X7_about : GoodIn AL zs_X7_about := gz aw_724
def zs_L_rest : List Cond := .codeWith yL_rest cL_rest 4 (some .int) [(0, 8, 11, 29)] :: AL
theorem gz_L_rest : GoodIn AL zs_L_rest := gz aw_727
def zs_X7_rest : List Cond := .code yX7_rest cX7_rest 2 (some .long) :: AL
theorem gz_X7_rest : GoodIn AL zs_X7_rest := gz aw_731
def zs_L_level : List Cond := .codeWith yL_level cL_level 5 (some .int) [(0, 10, 13, 29)] :: AL
theorem gz_L_level : GoodIn AL zs_L_level := gz aw_734
def zs_X7_level : List Cond := .code yX7_level cX7_level 3 (some .int) :: AL
theorem gz_X7_level : GoodIn AL zs_X7_level := gz aw_738
def zs_L_label : List Cond := .codeWith yL_label cL_label 5 (some .int) [(0, 10, 13, 29)] :: AL
theorem gz_L_label : GoodIn AL zs_L_label := gz aw_741
def zs_X7_label : List Cond := .code yX7_label cX7_label 3 (some .int) :: AL
theorem gz_X7_label : GoodIn AL zs_X7_label := gz aw_745
def zs_L_silence : List Cond := .codeWith yL_silence cL_silence 5 (some .int) [(0, 10, 13, 29)] :: AL
theorem gz_L_silence : GoodIn AL zs_L_silence := gz aw_748
def zs_X7_silence : List Cond := .code yX7_silence cX7_silence 4 (some .int) :: AL
theorem gz_X7_silence : GoodIn AL zs_X7_silence := gz aw_752
def zs_X6_search : List Cond := .code yX6_search cX6_search 1 (some .int) :: AL
theorem gz_X6_search : GoodIn AL zs_X6_search := gz aw_756
def zs_X7_search : List Cond := .code yX7_search cX7_search 1 (some .int) :: AL
theorem gz_X7_search : GoodIn AL zs_X7_search := gz aw_760
def zs_L_step : List Cond := .codeWith yL_step cL_step 4 (some .int) [(0, 9, 12, 15), (0, 9, 15, 13)] :: AL
theorem gz_L_step : GoodIn AL zs_L_step := gz aw_763
def zs_X7_step : List Cond := .code yX7_step cX7_step 3 (some .int) :: AL
theorem gz_X7_step : GoodIn AL zs_X7_step := gz aw_767
def zs_X6_found : List Cond := .code yX6_found cX6_found 1 (some .int) :: AL
theorem gz_X6_found : GoodIn AL zs_X6_found := gz aw_771
def zs_X7_found : List Cond := .code yX7_found cX7_found 1 (some .int) :: AL
theorem gz_X7_found : GoodIn AL zs_X7_found := gz aw_775
def zs_L_id : List Cond := .codeWith yL_id cL_id 4 (some .int) [(0, 8, 11, 29)] :: AL
theorem gz_L_id : GoodIn AL zs_L_id := gz aw_778
def zs_X7_id : List Cond := .code yX7_id cX7_id 2 (some .long) :: AL
theorem gz_X7_id : GoodIn AL zs_X7_id := gz aw_782
def zs_L_branch : List Cond := .codeWith yL_branch cL_branch 4 (some .int) [(0, 8, 11, 29)] :: AL
theorem gz_L_branch : GoodIn AL zs_L_branch := gz aw_785
def zs_X7_branch : List Cond := .code yX7_branch cX7_branch 2 (some .long) :: AL
theorem gz_X7_branch : GoodIn AL zs_X7_branch := gz aw_789
def zs_J9_min_7cf53 : List Cond := .code yJ9_min_7cf53 cJ9_min_7cf53 2 (some .int) :: AL
theorem gz_J9_min_7cf53 : GoodIn AL zs_J9_min_7cf53 := gz aw_790
